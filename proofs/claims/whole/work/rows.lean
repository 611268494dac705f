section
-- ===== PART A: goes FIRST, ahead of the names: the tables' words, and 'selects' of the private methods out of them =====
/-- a private method of a class that the tables say can be made, by its rows of tables_1 -/
def lw_okq (q : MethodName × Nat) : Prop := (q.1.cls ≠ "java/lang/invoke/MethodHandle" ∧ q.1.cls ≠ "java/lang/invoke/VarHandle") ∧ Cond.instantiable q.1.cls q.2 ∈ tables_1 ∧ Cond.privateMethod q.1 ∈ tables_1 ∧ Cond.instanceMethod q.1 ∈ tables_1
theorem lw_p0 : lw_okq (⟨"TreeFiles$Disk", "flipMapBit", "(I)V"⟩, 7) := ⟨⟨by decide +kernel, by decide +kernel⟩, List.mem_of_getElem? (i := 23) (by decide +kernel), List.mem_of_getElem? (i := 29) (by decide +kernel), List.mem_of_getElem? (i := 30) (by decide +kernel)⟩
theorem lw_p1 : lw_okq (⟨"TreeFiles$Disk", "touch", "(I)V"⟩, 7) := ⟨⟨by decide +kernel, by decide +kernel⟩, List.mem_of_getElem? (i := 23) (by decide +kernel), List.mem_of_getElem? (i := 33) (by decide +kernel), List.mem_of_getElem? (i := 34) (by decide +kernel)⟩
theorem lw_p2 : lw_okq (⟨"TreeFiles$Disk", "compare", "(I)V"⟩, 7) := ⟨⟨by decide +kernel, by decide +kernel⟩, List.mem_of_getElem? (i := 23) (by decide +kernel), List.mem_of_getElem? (i := 111) (by decide +kernel), List.mem_of_getElem? (i := 112) (by decide +kernel)⟩
theorem lw_p3 : lw_okq (⟨"TreeFiles$Disk", "commitWhatWasBefore", "()V"⟩, 7) := ⟨⟨by decide +kernel, by decide +kernel⟩, List.mem_of_getElem? (i := 23) (by decide +kernel), List.mem_of_getElem? (i := 119) (by decide +kernel), List.mem_of_getElem? (i := 120) (by decide +kernel)⟩
theorem lw_p4 : lw_okq (⟨"TreeFiles$Disk", "hasBlock", "(I)Z"⟩, 7) := ⟨⟨by decide +kernel, by decide +kernel⟩, List.mem_of_getElem? (i := 23) (by decide +kernel), List.mem_of_getElem? (i := 130) (by decide +kernel), List.mem_of_getElem? (i := 131) (by decide +kernel)⟩
theorem lw_p5 : lw_okq (⟨"TreeFiles$Disk", "forgetTouched", "()V"⟩, 7) := ⟨⟨by decide +kernel, by decide +kernel⟩, List.mem_of_getElem? (i := 23) (by decide +kernel), List.mem_of_getElem? (i := 134) (by decide +kernel), List.mem_of_getElem? (i := 135) (by decide +kernel)⟩
theorem lw_p6 : lw_okq (⟨"TreeFiles$Disk", "makeAlike", "([J[J)V"⟩, 7) := ⟨⟨by decide +kernel, by decide +kernel⟩, List.mem_of_getElem? (i := 23) (by decide +kernel), List.mem_of_getElem? (i := 142) (by decide +kernel), List.mem_of_getElem? (i := 143) (by decide +kernel)⟩
theorem lw_p7 : lw_okq (⟨"java/lang/Throwable", "fillInStackTrace", "(I)Ljava/lang/Throwable;"⟩, 6) := ⟨⟨by decide +kernel, by decide +kernel⟩, List.mem_of_getElem? (i := 225) (by decide +kernel), List.mem_of_getElem? (i := 223) (by decide +kernel), List.mem_of_getElem? (i := 224) (by decide +kernel)⟩
theorem lw_p8 : lw_okq (⟨"TreeFiles", "kindFault", "(II)I"⟩, 5) := ⟨⟨by decide +kernel, by decide +kernel⟩, List.mem_of_getElem? (i := 15) (by decide +kernel), List.mem_of_getElem? (i := 287) (by decide +kernel), List.mem_of_getElem? (i := 288) (by decide +kernel)⟩
theorem lw_p9 : lw_okq (⟨"TreeFiles$Inodes", "takeBlock", "(I)Z"⟩, 1) := ⟨⟨by decide +kernel, by decide +kernel⟩, List.mem_of_getElem? (i := 67) (by decide +kernel), List.mem_of_getElem? (i := 350) (by decide +kernel), List.mem_of_getElem? (i := 351) (by decide +kernel)⟩
theorem lw_p10 : lw_okq (⟨"TreeFiles$Inodes", "giveBlockBack", "(I)V"⟩, 1) := ⟨⟨by decide +kernel, by decide +kernel⟩, List.mem_of_getElem? (i := 67) (by decide +kernel), List.mem_of_getElem? (i := 368) (by decide +kernel), List.mem_of_getElem? (i := 369) (by decide +kernel)⟩
theorem lw_p11 : lw_okq (⟨"TreeFiles", "entryOrFault", "(II)I"⟩, 5) := ⟨⟨by decide +kernel, by decide +kernel⟩, List.mem_of_getElem? (i := 15) (by decide +kernel), List.mem_of_getElem? (i := 397) (by decide +kernel), List.mem_of_getElem? (i := 398) (by decide +kernel)⟩
theorem lw_p12 : lw_okq (⟨"TreeFiles", "moveFault", "(III)I"⟩, 5) := ⟨⟨by decide +kernel, by decide +kernel⟩, List.mem_of_getElem? (i := 15) (by decide +kernel), List.mem_of_getElem? (i := 459) (by decide +kernel), List.mem_of_getElem? (i := 460) (by decide +kernel)⟩
theorem lw_p13 : lw_okq (⟨"TreeFiles", "hasEntries", "(I)Z"⟩, 5) := ⟨⟨by decide +kernel, by decide +kernel⟩, List.mem_of_getElem? (i := 15) (by decide +kernel), List.mem_of_getElem? (i := 463) (by decide +kernel), List.mem_of_getElem? (i := 464) (by decide +kernel)⟩
theorem lw_p14 : lw_okq (⟨"TreeFiles$Directories", "fillParents", "()V"⟩, 3) := ⟨⟨by decide +kernel, by decide +kernel⟩, List.mem_of_getElem? (i := 77) (by decide +kernel), List.mem_of_getElem? (i := 475) (by decide +kernel), List.mem_of_getElem? (i := 476) (by decide +kernel)⟩
theorem lw_p15 : lw_okq (⟨"TreeFilesModel", "commitsAll", "()I"⟩, 14) := ⟨⟨by decide +kernel, by decide +kernel⟩, List.mem_of_getElem? (i := 561) (by decide +kernel), List.mem_of_getElem? (i := 568) (by decide +kernel), List.mem_of_getElem? (i := 569) (by decide +kernel)⟩
def lw_privs_1 : List (MethodName × Nat) := [(⟨"TreeFiles$Disk", "flipMapBit", "(I)V"⟩, 7), (⟨"TreeFiles$Disk", "touch", "(I)V"⟩, 7), (⟨"TreeFiles$Disk", "compare", "(I)V"⟩, 7), (⟨"TreeFiles$Disk", "commitWhatWasBefore", "()V"⟩, 7), (⟨"TreeFiles$Disk", "hasBlock", "(I)Z"⟩, 7), (⟨"TreeFiles$Disk", "forgetTouched", "()V"⟩, 7), (⟨"TreeFiles$Disk", "makeAlike", "([J[J)V"⟩, 7), (⟨"java/lang/Throwable", "fillInStackTrace", "(I)Ljava/lang/Throwable;"⟩, 6), (⟨"TreeFiles", "kindFault", "(II)I"⟩, 5), (⟨"TreeFiles$Inodes", "takeBlock", "(I)Z"⟩, 1), (⟨"TreeFiles$Inodes", "giveBlockBack", "(I)V"⟩, 1), (⟨"TreeFiles", "entryOrFault", "(II)I"⟩, 5), (⟨"TreeFiles", "moveFault", "(III)I"⟩, 5), (⟨"TreeFiles", "hasEntries", "(I)Z"⟩, 5), (⟨"TreeFiles$Directories", "fillParents", "()V"⟩, 3), (⟨"TreeFilesModel", "commitsAll", "()I"⟩, 14)]
theorem lw_r1 : ∀ q ∈ lw_privs_1, lw_okq q := List.forall_mem_cons.mpr ⟨lw_p0, List.forall_mem_cons.mpr ⟨lw_p1, List.forall_mem_cons.mpr ⟨lw_p2, List.forall_mem_cons.mpr ⟨lw_p3, List.forall_mem_cons.mpr ⟨lw_p4, List.forall_mem_cons.mpr ⟨lw_p5, List.forall_mem_cons.mpr ⟨lw_p6, List.forall_mem_cons.mpr ⟨lw_p7, List.forall_mem_cons.mpr ⟨lw_p8, List.forall_mem_cons.mpr ⟨lw_p9, List.forall_mem_cons.mpr ⟨lw_p10, List.forall_mem_cons.mpr ⟨lw_p11, List.forall_mem_cons.mpr ⟨lw_p12, List.forall_mem_cons.mpr ⟨lw_p13, List.forall_mem_cons.mpr ⟨lw_p14, List.forall_mem_cons.mpr ⟨lw_p15, fun _ h => absurd h List.not_mem_nil⟩⟩⟩⟩⟩⟩⟩⟩⟩⟩⟩⟩⟩⟩⟩⟩
theorem lw_p16 : lw_okq (⟨"TreeFilesModel", "changes", "()I"⟩, 14) := ⟨⟨by decide +kernel, by decide +kernel⟩, List.mem_of_getElem? (i := 561) (by decide +kernel), List.mem_of_getElem? (i := 572) (by decide +kernel), List.mem_of_getElem? (i := 573) (by decide +kernel)⟩
theorem lw_p17 : lw_okq (⟨"TreeFilesModel", "isChanged", "(I)Z"⟩, 14) := ⟨⟨by decide +kernel, by decide +kernel⟩, List.mem_of_getElem? (i := 561) (by decide +kernel), List.mem_of_getElem? (i := 576) (by decide +kernel), List.mem_of_getElem? (i := 577) (by decide +kernel)⟩
theorem lw_p18 : lw_okq (⟨"TreeFilesModel", "byteOf", "(II)I"⟩, 14) := ⟨⟨by decide +kernel, by decide +kernel⟩, List.mem_of_getElem? (i := 561) (by decide +kernel), List.mem_of_getElem? (i := 580) (by decide +kernel), List.mem_of_getElem? (i := 581) (by decide +kernel)⟩
theorem lw_p19 : lw_okq (⟨"TreeFilesModel", "nodeByte", "(II)I"⟩, 14) := ⟨⟨by decide +kernel, by decide +kernel⟩, List.mem_of_getElem? (i := 561) (by decide +kernel), List.mem_of_getElem? (i := 584) (by decide +kernel), List.mem_of_getElem? (i := 585) (by decide +kernel)⟩
theorem lw_p20 : lw_okq (⟨"TreeFilesModel", "mapByte", "(I)I"⟩, 14) := ⟨⟨by decide +kernel, by decide +kernel⟩, List.mem_of_getElem? (i := 561) (by decide +kernel), List.mem_of_getElem? (i := 588) (by decide +kernel), List.mem_of_getElem? (i := 589) (by decide +kernel)⟩
theorem lw_p21 : lw_okq (⟨"TreeFilesModel", "fails", "(ZI)Z"⟩, 14) := ⟨⟨by decide +kernel, by decide +kernel⟩, List.mem_of_getElem? (i := 561) (by decide +kernel), List.mem_of_getElem? (i := 649) (by decide +kernel), List.mem_of_getElem? (i := 650) (by decide +kernel)⟩
theorem lw_p22 : lw_okq (⟨"TreeFilesModel", "does", "(IIIII)I"⟩, 14) := ⟨⟨by decide +kernel, by decide +kernel⟩, List.mem_of_getElem? (i := 561) (by decide +kernel), List.mem_of_getElem? (i := 665) (by decide +kernel), List.mem_of_getElem? (i := 666) (by decide +kernel)⟩
theorem lw_p23 : lw_okq (⟨"TreeFilesModel", "keepsAside", "()V"⟩, 14) := ⟨⟨by decide +kernel, by decide +kernel⟩, List.mem_of_getElem? (i := 561) (by decide +kernel), List.mem_of_getElem? (i := 669) (by decide +kernel), List.mem_of_getElem? (i := 670) (by decide +kernel)⟩
theorem lw_p24 : lw_okq (⟨"TreeFilesModel", "tries", "(IIIII)I"⟩, 14) := ⟨⟨by decide +kernel, by decide +kernel⟩, List.mem_of_getElem? (i := 561) (by decide +kernel), List.mem_of_getElem? (i := 673) (by decide +kernel), List.mem_of_getElem? (i := 674) (by decide +kernel)⟩
theorem lw_p25 : lw_okq (⟨"TreeFilesModel", "makes", "(IIZ)I"⟩, 14) := ⟨⟨by decide +kernel, by decide +kernel⟩, List.mem_of_getElem? (i := 561) (by decide +kernel), List.mem_of_getElem? (i := 677) (by decide +kernel), List.mem_of_getElem? (i := 678) (by decide +kernel)⟩
theorem lw_p26 : lw_okq (⟨"TreeFilesModel", "badDirectory", "(I)I"⟩, 14) := ⟨⟨by decide +kernel, by decide +kernel⟩, List.mem_of_getElem? (i := 561) (by decide +kernel), List.mem_of_getElem? (i := 681) (by decide +kernel), List.mem_of_getElem? (i := 682) (by decide +kernel)⟩
theorem lw_p27 : lw_okq (⟨"TreeFilesModel", "kind", "(I)I"⟩, 14) := ⟨⟨by decide +kernel, by decide +kernel⟩, List.mem_of_getElem? (i := 561) (by decide +kernel), List.mem_of_getElem? (i := 685) (by decide +kernel), List.mem_of_getElem? (i := 686) (by decide +kernel)⟩
theorem lw_p28 : lw_okq (⟨"TreeFilesModel", "entryOf", "(II)I"⟩, 14) := ⟨⟨by decide +kernel, by decide +kernel⟩, List.mem_of_getElem? (i := 561) (by decide +kernel), List.mem_of_getElem? (i := 689) (by decide +kernel), List.mem_of_getElem? (i := 690) (by decide +kernel)⟩
theorem lw_p29 : lw_okq (⟨"TreeFilesModel", "sizeOf", "(I)I"⟩, 14) := ⟨⟨by decide +kernel, by decide +kernel⟩, List.mem_of_getElem? (i := 561) (by decide +kernel), List.mem_of_getElem? (i := 693) (by decide +kernel), List.mem_of_getElem? (i := 694) (by decide +kernel)⟩
theorem lw_p30 : lw_okq (⟨"TreeFilesModel", "nameAt", "(II)I"⟩, 14) := ⟨⟨by decide +kernel, by decide +kernel⟩, List.mem_of_getElem? (i := 561) (by decide +kernel), List.mem_of_getElem? (i := 697) (by decide +kernel), List.mem_of_getElem? (i := 698) (by decide +kernel)⟩
theorem lw_p31 : lw_okq (⟨"TreeFilesModel", "get", "(II)I"⟩, 14) := ⟨⟨by decide +kernel, by decide +kernel⟩, List.mem_of_getElem? (i := 561) (by decide +kernel), List.mem_of_getElem? (i := 701) (by decide +kernel), List.mem_of_getElem? (i := 702) (by decide +kernel)⟩
def lw_privs_2 : List (MethodName × Nat) := [(⟨"TreeFilesModel", "changes", "()I"⟩, 14), (⟨"TreeFilesModel", "isChanged", "(I)Z"⟩, 14), (⟨"TreeFilesModel", "byteOf", "(II)I"⟩, 14), (⟨"TreeFilesModel", "nodeByte", "(II)I"⟩, 14), (⟨"TreeFilesModel", "mapByte", "(I)I"⟩, 14), (⟨"TreeFilesModel", "fails", "(ZI)Z"⟩, 14), (⟨"TreeFilesModel", "does", "(IIIII)I"⟩, 14), (⟨"TreeFilesModel", "keepsAside", "()V"⟩, 14), (⟨"TreeFilesModel", "tries", "(IIIII)I"⟩, 14), (⟨"TreeFilesModel", "makes", "(IIZ)I"⟩, 14), (⟨"TreeFilesModel", "badDirectory", "(I)I"⟩, 14), (⟨"TreeFilesModel", "kind", "(I)I"⟩, 14), (⟨"TreeFilesModel", "entryOf", "(II)I"⟩, 14), (⟨"TreeFilesModel", "sizeOf", "(I)I"⟩, 14), (⟨"TreeFilesModel", "nameAt", "(II)I"⟩, 14), (⟨"TreeFilesModel", "get", "(II)I"⟩, 14)]
theorem lw_r2 : ∀ q ∈ lw_privs_2, lw_okq q := List.forall_mem_cons.mpr ⟨lw_p16, List.forall_mem_cons.mpr ⟨lw_p17, List.forall_mem_cons.mpr ⟨lw_p18, List.forall_mem_cons.mpr ⟨lw_p19, List.forall_mem_cons.mpr ⟨lw_p20, List.forall_mem_cons.mpr ⟨lw_p21, List.forall_mem_cons.mpr ⟨lw_p22, List.forall_mem_cons.mpr ⟨lw_p23, List.forall_mem_cons.mpr ⟨lw_p24, List.forall_mem_cons.mpr ⟨lw_p25, List.forall_mem_cons.mpr ⟨lw_p26, List.forall_mem_cons.mpr ⟨lw_p27, List.forall_mem_cons.mpr ⟨lw_p28, List.forall_mem_cons.mpr ⟨lw_p29, List.forall_mem_cons.mpr ⟨lw_p30, List.forall_mem_cons.mpr ⟨lw_p31, fun _ h => absurd h List.not_mem_nil⟩⟩⟩⟩⟩⟩⟩⟩⟩⟩⟩⟩⟩⟩⟩⟩
theorem lw_p32 : lw_okq (⟨"TreeFilesModel", "blockOf", "(II)I"⟩, 14) := ⟨⟨by decide +kernel, by decide +kernel⟩, List.mem_of_getElem? (i := 561) (by decide +kernel), List.mem_of_getElem? (i := 705) (by decide +kernel), List.mem_of_getElem? (i := 706) (by decide +kernel)⟩
theorem lw_p33 : lw_okq (⟨"TreeFilesModel", "adds", "(III)Z"⟩, 14) := ⟨⟨by decide +kernel, by decide +kernel⟩, List.mem_of_getElem? (i := 561) (by decide +kernel), List.mem_of_getElem? (i := 709) (by decide +kernel), List.mem_of_getElem? (i := 710) (by decide +kernel)⟩
theorem lw_p34 : lw_okq (⟨"TreeFilesModel", "sizes", "(II)Z"⟩, 14) := ⟨⟨by decide +kernel, by decide +kernel⟩, List.mem_of_getElem? (i := 561) (by decide +kernel), List.mem_of_getElem? (i := 713) (by decide +kernel), List.mem_of_getElem? (i := 714) (by decide +kernel)⟩
theorem lw_p35 : lw_okq (⟨"TreeFilesModel", "blocksOf", "(I)I"⟩, 14) := ⟨⟨by decide +kernel, by decide +kernel⟩, List.mem_of_getElem? (i := 561) (by decide +kernel), List.mem_of_getElem? (i := 717) (by decide +kernel), List.mem_of_getElem? (i := 718) (by decide +kernel)⟩
theorem lw_p36 : lw_okq (⟨"TreeFilesModel", "takes", "(I)Z"⟩, 14) := ⟨⟨by decide +kernel, by decide +kernel⟩, List.mem_of_getElem? (i := 561) (by decide +kernel), List.mem_of_getElem? (i := 721) (by decide +kernel), List.mem_of_getElem? (i := 722) (by decide +kernel)⟩
theorem lw_p37 : lw_okq (⟨"TreeFilesModel", "gives", "(I)V"⟩, 14) := ⟨⟨by decide +kernel, by decide +kernel⟩, List.mem_of_getElem? (i := 561) (by decide +kernel), List.mem_of_getElem? (i := 725) (by decide +kernel), List.mem_of_getElem? (i := 726) (by decide +kernel)⟩
theorem lw_p38 : lw_okq (⟨"TreeFilesModel", "put", "(III)V"⟩, 14) := ⟨⟨by decide +kernel, by decide +kernel⟩, List.mem_of_getElem? (i := 561) (by decide +kernel), List.mem_of_getElem? (i := 729) (by decide +kernel), List.mem_of_getElem? (i := 730) (by decide +kernel)⟩
theorem lw_p39 : lw_okq (⟨"TreeFilesModel", "enters", "(IIII)V"⟩, 14) := ⟨⟨by decide +kernel, by decide +kernel⟩, List.mem_of_getElem? (i := 561) (by decide +kernel), List.mem_of_getElem? (i := 733) (by decide +kernel), List.mem_of_getElem? (i := 734) (by decide +kernel)⟩
theorem lw_p40 : lw_okq (⟨"TreeFilesModel", "writes", "(III)I"⟩, 14) := ⟨⟨by decide +kernel, by decide +kernel⟩, List.mem_of_getElem? (i := 561) (by decide +kernel), List.mem_of_getElem? (i := 737) (by decide +kernel), List.mem_of_getElem? (i := 738) (by decide +kernel)⟩
theorem lw_p41 : lw_okq (⟨"TreeFilesModel", "badFile", "(I)I"⟩, 14) := ⟨⟨by decide +kernel, by decide +kernel⟩, List.mem_of_getElem? (i := 561) (by decide +kernel), List.mem_of_getElem? (i := 741) (by decide +kernel), List.mem_of_getElem? (i := 742) (by decide +kernel)⟩
theorem lw_p42 : lw_okq (⟨"TreeFilesModel", "cuts", "(II)I"⟩, 14) := ⟨⟨by decide +kernel, by decide +kernel⟩, List.mem_of_getElem? (i := 561) (by decide +kernel), List.mem_of_getElem? (i := 745) (by decide +kernel), List.mem_of_getElem? (i := 746) (by decide +kernel)⟩
theorem lw_p43 : lw_okq (⟨"TreeFilesModel", "moves", "(IIII)I"⟩, 14) := ⟨⟨by decide +kernel, by decide +kernel⟩, List.mem_of_getElem? (i := 561) (by decide +kernel), List.mem_of_getElem? (i := 749) (by decide +kernel), List.mem_of_getElem? (i := 750) (by decide +kernel)⟩
theorem lw_p44 : lw_okq (⟨"TreeFilesModel", "inodeAt", "(II)I"⟩, 14) := ⟨⟨by decide +kernel, by decide +kernel⟩, List.mem_of_getElem? (i := 561) (by decide +kernel), List.mem_of_getElem? (i := 753) (by decide +kernel), List.mem_of_getElem? (i := 754) (by decide +kernel)⟩
theorem lw_p45 : lw_okq (⟨"TreeFilesModel", "isEmpty", "(I)Z"⟩, 14) := ⟨⟨by decide +kernel, by decide +kernel⟩, List.mem_of_getElem? (i := 561) (by decide +kernel), List.mem_of_getElem? (i := 757) (by decide +kernel), List.mem_of_getElem? (i := 758) (by decide +kernel)⟩
theorem lw_p46 : lw_okq (⟨"TreeFilesModel", "parentOf", "(I)I"⟩, 14) := ⟨⟨by decide +kernel, by decide +kernel⟩, List.mem_of_getElem? (i := 561) (by decide +kernel), List.mem_of_getElem? (i := 761) (by decide +kernel), List.mem_of_getElem? (i := 762) (by decide +kernel)⟩
theorem lw_p47 : lw_okq (⟨"TreeFilesModel", "frees", "(I)V"⟩, 14) := ⟨⟨by decide +kernel, by decide +kernel⟩, List.mem_of_getElem? (i := 561) (by decide +kernel), List.mem_of_getElem? (i := 765) (by decide +kernel), List.mem_of_getElem? (i := 766) (by decide +kernel)⟩
def lw_privs_3 : List (MethodName × Nat) := [(⟨"TreeFilesModel", "blockOf", "(II)I"⟩, 14), (⟨"TreeFilesModel", "adds", "(III)Z"⟩, 14), (⟨"TreeFilesModel", "sizes", "(II)Z"⟩, 14), (⟨"TreeFilesModel", "blocksOf", "(I)I"⟩, 14), (⟨"TreeFilesModel", "takes", "(I)Z"⟩, 14), (⟨"TreeFilesModel", "gives", "(I)V"⟩, 14), (⟨"TreeFilesModel", "put", "(III)V"⟩, 14), (⟨"TreeFilesModel", "enters", "(IIII)V"⟩, 14), (⟨"TreeFilesModel", "writes", "(III)I"⟩, 14), (⟨"TreeFilesModel", "badFile", "(I)I"⟩, 14), (⟨"TreeFilesModel", "cuts", "(II)I"⟩, 14), (⟨"TreeFilesModel", "moves", "(IIII)I"⟩, 14), (⟨"TreeFilesModel", "inodeAt", "(II)I"⟩, 14), (⟨"TreeFilesModel", "isEmpty", "(I)Z"⟩, 14), (⟨"TreeFilesModel", "parentOf", "(I)I"⟩, 14), (⟨"TreeFilesModel", "frees", "(I)V"⟩, 14)]
theorem lw_r3 : ∀ q ∈ lw_privs_3, lw_okq q := List.forall_mem_cons.mpr ⟨lw_p32, List.forall_mem_cons.mpr ⟨lw_p33, List.forall_mem_cons.mpr ⟨lw_p34, List.forall_mem_cons.mpr ⟨lw_p35, List.forall_mem_cons.mpr ⟨lw_p36, List.forall_mem_cons.mpr ⟨lw_p37, List.forall_mem_cons.mpr ⟨lw_p38, List.forall_mem_cons.mpr ⟨lw_p39, List.forall_mem_cons.mpr ⟨lw_p40, List.forall_mem_cons.mpr ⟨lw_p41, List.forall_mem_cons.mpr ⟨lw_p42, List.forall_mem_cons.mpr ⟨lw_p43, List.forall_mem_cons.mpr ⟨lw_p44, List.forall_mem_cons.mpr ⟨lw_p45, List.forall_mem_cons.mpr ⟨lw_p46, List.forall_mem_cons.mpr ⟨lw_p47, fun _ h => absurd h List.not_mem_nil⟩⟩⟩⟩⟩⟩⟩⟩⟩⟩⟩⟩⟩⟩⟩⟩
theorem lw_p48 : lw_okq (⟨"TreeFilesModel", "removes", "(II)I"⟩, 14) := ⟨⟨by decide +kernel, by decide +kernel⟩, List.mem_of_getElem? (i := 561) (by decide +kernel), List.mem_of_getElem? (i := 769) (by decide +kernel), List.mem_of_getElem? (i := 770) (by decide +kernel)⟩
theorem lw_p49 : lw_okq (⟨"TreeFilesModel", "bringsBack", "()V"⟩, 14) := ⟨⟨by decide +kernel, by decide +kernel⟩, List.mem_of_getElem? (i := 561) (by decide +kernel), List.mem_of_getElem? (i := 773) (by decide +kernel), List.mem_of_getElem? (i := 774) (by decide +kernel)⟩
def lw_privs_4 : List (MethodName × Nat) := [(⟨"TreeFilesModel", "removes", "(II)I"⟩, 14), (⟨"TreeFilesModel", "bringsBack", "()V"⟩, 14)]
theorem lw_r4 : ∀ q ∈ lw_privs_4, lw_okq q := List.forall_mem_cons.mpr ⟨lw_p48, List.forall_mem_cons.mpr ⟨lw_p49, fun _ h => absurd h List.not_mem_nil⟩⟩
def lw_privs : List (MethodName × Nat) := lw_privs_1 ++ (lw_privs_2 ++ (lw_privs_3 ++ (lw_privs_4)))
def lw_tbl : List Cond := k2_sels lw_privs ++ tables_1
theorem lw_privs_ok : ∀ q ∈ lw_privs, lw_okq q := by
  show ∀ q ∈ lw_privs_1 ++ (lw_privs_2 ++ (lw_privs_3 ++ (lw_privs_4))), lw_okq q
  exact List.forall_mem_append.mpr ⟨lw_r1, List.forall_mem_append.mpr ⟨lw_r2, List.forall_mem_append.mpr ⟨lw_r3, lw_r4⟩⟩⟩
-- ===== end of PART A; then your names; then what follows =====
end
section
/-- the words of the tables that stay true -/
def lw_tb : List Cond := lw_tbl.filter goodWord
theorem tb_in {w : Cond} (h : w ∈ lw_tbl) (hg : goodWord w = true) : w ∈ lw_tb := List.mem_filter.mpr ⟨h, hg⟩
theorem tb_good {big ws : List Cond} (hb : ∀ w ∈ lw_tb, w ∈ big) (h : ∀ w ∈ ws, w ∈ lw_tb) : GoodIn big ws := fun w hw => ⟨hb w (h w hw), good_of_word (List.mem_filter.mp (h w hw)).2⟩
theorem gd_V {own C : String} {idx maxL : Nat} {y : MethodName} {bytes : ByteArray} {ret : Option FieldType} (h1 : Cond.methodLink own idx y ∈ lw_tb) (h2 : Cond.instanceMethod y ∈ lw_tb) (h3 : Cond.selects C y y ∈ lw_tb) (h4 : Cond.initialized C ∈ lw_tb) (h5 : Cond.code y bytes maxL ret ∈ lw_tb) : GoodIn lw_tb (wsV own idx C y (.code y bytes maxL ret :: lw_tb)) := by
  refine tb_good (fun _ h => h) (fun w hw => ?_)
  simp only [wsV, List.cons_append, List.nil_append, List.mem_cons] at hw
  rcases hw with rfl | rfl | rfl | rfl | rfl | h
  · exact h1
  · exact h2
  · exact h3
  · exact h4
  · exact h5
  · exact h
theorem gd_S {own : String} {idx maxL : Nat} {y : MethodName} {bytes : ByteArray} {ret : Option FieldType} (h1 : Cond.methodLink own idx y ∈ lw_tb) (h2 : Cond.static y ∈ lw_tb) (h4 : Cond.initialized own ∈ lw_tb) (h5 : Cond.code y bytes maxL ret ∈ lw_tb) : GoodIn lw_tb (wsS own idx y (.code y bytes maxL ret :: lw_tb)) := by
  refine tb_good (fun _ h => h) (fun w hw => ?_)
  simp only [wsS, List.cons_append, List.nil_append, List.mem_cons] at hw
  rcases hw with rfl | rfl | rfl | rfl | h
  · exact h1
  · exact h2
  · exact h4
  · exact h5
  · exact h
theorem gd_I {maxL : Nat} {y : MethodName} {bytes : ByteArray} {ret : Option FieldType} (h5 : Cond.code y bytes maxL ret ∈ lw_tb) : GoodIn lw_tb (.code y bytes maxL ret :: lw_tb) := tb_good (fun _ h => h) (fun w hw => (List.mem_cons.mp hw).elim (fun e => e ▸ h5) (fun h => h))
def R_Dirs : String := "TreeFiles$Directories"
def T_Dirs : u_T := fun k => match k with
  | 0 => ("TreeFiles$Directories", "disk", "LTreeFiles$Disk;", true)
  | 1 => ("TreeFiles$Directories", "inodes", "LTreeFiles$Inodes;", true)
  | _ => ("TreeFiles$Directories", "parents", "[I", true)
def t_Dirs : Nat → FieldType := fun k => match k with
  | 0 => .object "TreeFiles$Disk"
  | 1 => .object "TreeFiles$Inodes"
  | _ => .array .int
theorem n_Dirs : ∀ a, a < 3 → ∀ b, b < 3 → a ≠ b → (T_Dirs a).2.1 ≠ (T_Dirs b).2.1 := by decide +kernel
theorem t_Dirs_ok : ∀ k, k < 3 → parseFieldDescriptor (T_Dirs k).2.2.1 = some (t_Dirs k) := by decide +kernel
theorem in_Dirs : ∀ w ∈ u_ws R_Dirs T_Dirs 3, w ∈ lw_tb := fun w h => tb_in ((by decide +kernel : ∀ w ∈ u_ws R_Dirs T_Dirs 3, w ∈ lw_tbl) w h) ((by decide +kernel : ∀ w ∈ u_ws R_Dirs T_Dirs 3, goodWord w = true) w h)
def R_Disk : String := "TreeFiles$Disk"
def T_Disk : u_T := fun k => match k with
  | 0 => ("TreeFiles$Disk", "blocks", "I", true)
  | 1 => ("TreeFiles$Disk", "now", "[J", true)
  | 2 => ("TreeFiles$Disk", "committed", "[J", true)
  | 3 => ("TreeFiles$Disk", "before", "[J", true)
  | 4 => ("TreeFiles$Disk", "touched", "[Z", true)
  | 5 => ("TreeFiles$Disk", "differs", "[Z", true)
  | _ => ("TreeFiles$Disk", "earlyCommits", "I", false)
def t_Disk : Nat → FieldType := fun k => match k with
  | 0 => .int
  | 1 => .array .long
  | 2 => .array .long
  | 3 => .array .long
  | 4 => .array .boolean
  | 5 => .array .boolean
  | _ => .int
theorem n_Disk : ∀ a, a < 7 → ∀ b, b < 7 → a ≠ b → (T_Disk a).2.1 ≠ (T_Disk b).2.1 := by decide +kernel
theorem t_Disk_ok : ∀ k, k < 7 → parseFieldDescriptor (T_Disk k).2.2.1 = some (t_Disk k) := by decide +kernel
theorem in_Disk : ∀ w ∈ u_ws R_Disk T_Disk 7, w ∈ lw_tb := fun w h => tb_in ((by decide +kernel : ∀ w ∈ u_ws R_Disk T_Disk 7, w ∈ lw_tbl) w h) ((by decide +kernel : ∀ w ∈ u_ws R_Disk T_Disk 7, goodWord w = true) w h)
def R_Inodes : String := "TreeFiles$Inodes"
def T_Inodes : u_T := fun k => match k with
  | _ => ("TreeFiles$Inodes", "disk", "LTreeFiles$Disk;", true)
def t_Inodes : Nat → FieldType := fun k => match k with
  | _ => .object "TreeFiles$Disk"
theorem n_Inodes : ∀ a, a < 1 → ∀ b, b < 1 → a ≠ b → (T_Inodes a).2.1 ≠ (T_Inodes b).2.1 := by decide +kernel
theorem t_Inodes_ok : ∀ k, k < 1 → parseFieldDescriptor (T_Inodes k).2.2.1 = some (t_Inodes k) := by decide +kernel
theorem in_Inodes : ∀ w ∈ u_ws R_Inodes T_Inodes 1, w ∈ lw_tb := fun w h => tb_in ((by decide +kernel : ∀ w ∈ u_ws R_Inodes T_Inodes 1, w ∈ lw_tbl) w h) ((by decide +kernel : ∀ w ∈ u_ws R_Inodes T_Inodes 1, goodWord w = true) w h)
def R_Tree : String := "TreeFiles"
def T_Tree : u_T := fun k => match k with
  | 0 => ("TreeFiles", "disk", "LTreeFiles$Disk;", true)
  | 1 => ("TreeFiles", "inodes", "LTreeFiles$Inodes;", true)
  | 2 => ("TreeFiles", "directories", "LTreeFiles$Directories;", true)
  | 3 => ("TreeFiles", "tape", "[I", true)
  | _ => ("TreeFiles", "tapeLength", "I", false)
def t_Tree : Nat → FieldType := fun k => match k with
  | 0 => .object "TreeFiles$Disk"
  | 1 => .object "TreeFiles$Inodes"
  | 2 => .object "TreeFiles$Directories"
  | 3 => .array .int
  | _ => .int
theorem n_Tree : ∀ a, a < 5 → ∀ b, b < 5 → a ≠ b → (T_Tree a).2.1 ≠ (T_Tree b).2.1 := by decide +kernel
theorem t_Tree_ok : ∀ k, k < 5 → parseFieldDescriptor (T_Tree k).2.2.1 = some (t_Tree k) := by decide +kernel
theorem in_Tree : ∀ w ∈ u_ws R_Tree T_Tree 5, w ∈ lw_tb := fun w h => tb_in ((by decide +kernel : ∀ w ∈ u_ws R_Tree T_Tree 5, w ∈ lw_tbl) w h) ((by decide +kernel : ∀ w ∈ u_ws R_Tree T_Tree 5, goodWord w = true) w h)
def R_Mod : String := "TreeFilesModel"
def T_Mod : u_T := fun k => match k with
  | 0 => ("TreeFilesModel", "thrown", "I", false)
  | 1 => ("TreeFilesModel", "blocks", "I", true)
  | 2 => ("TreeFilesModel", "tape", "[I", true)
  | 3 => ("TreeFilesModel", "taped", "I", false)
  | 4 => ("TreeFilesModel", "node", "[I", true)
  | 5 => ("TreeFilesModel", "owner", "[I", true)
  | 6 => ("TreeFilesModel", "now", "[I", true)
  | 7 => ("TreeFilesModel", "keptNode", "[I", true)
  | 8 => ("TreeFilesModel", "keptOwner", "[I", true)
  | 9 => ("TreeFilesModel", "done", "[I", true)
  | 10 => ("TreeFilesModel", "asideNode", "[I", true)
  | 11 => ("TreeFilesModel", "asideOwner", "[I", true)
  | 12 => ("TreeFilesModel", "asideNow", "[I", true)
  | _ => ("TreeFilesModel", "commits", "I", false)
def t_Mod : Nat → FieldType := fun k => match k with
  | 0 => .int
  | 1 => .int
  | 2 => .array .int
  | 3 => .int
  | 4 => .array .int
  | 5 => .array .int
  | 6 => .array .int
  | 7 => .array .int
  | 8 => .array .int
  | 9 => .array .int
  | 10 => .array .int
  | 11 => .array .int
  | 12 => .array .int
  | _ => .int
theorem n_Mod : ∀ a, a < 14 → ∀ b, b < 14 → a ≠ b → (T_Mod a).2.1 ≠ (T_Mod b).2.1 := by decide +kernel
theorem t_Mod_ok : ∀ k, k < 14 → parseFieldDescriptor (T_Mod k).2.2.1 = some (t_Mod k) := by decide +kernel
theorem in_Mod : ∀ w ∈ u_ws R_Mod T_Mod 14, w ∈ lw_tb := fun w h => tb_in ((by decide +kernel : ∀ w ∈ u_ws R_Mod T_Mod 14, w ∈ lw_tbl) w h) ((by decide +kernel : ∀ w ∈ u_ws R_Mod T_Mod 14, goodWord w = true) w h)
def R_Law : String := "TreeFilesLaw"
abbrev cl5 : List vw_C := [(R_Dirs, T_Dirs, 3), (R_Disk, T_Disk, 7), (R_Inodes, T_Inodes, 1), (R_Tree, T_Tree, 5), (R_Mod, T_Mod, 14)]
abbrev b_Tree_init : ByteArray := prog_1_method_1_code
def y_Tree_init : MethodName := ⟨R_Tree, "<init>", "(I)V"⟩
abbrev w_Tree_init : List Cond := .code y_Tree_init b_Tree_init 2 none :: lw_tb
abbrev b_Disk_init : ByteArray := prog_3_method_1_code
def y_Disk_init : MethodName := ⟨R_Disk, "<init>", "(I)V"⟩
abbrev w_Disk_init : List Cond := .code y_Disk_init b_Disk_init 3 none :: lw_tb
abbrev b_Disk_flipMapBit : ByteArray := prog_3_method_24_code
def y_Disk_flipMapBit : MethodName := ⟨R_Disk, "flipMapBit", "(I)V"⟩
abbrev w_Disk_flipMapBit : List Cond := .code y_Disk_flipMapBit b_Disk_flipMapBit 2 none :: lw_tb
abbrev b_Disk_touch : ByteArray := prog_3_method_25_code
def y_Disk_touch : MethodName := ⟨R_Disk, "touch", "(I)V"⟩
abbrev w_Disk_touch : List Cond := .code y_Disk_touch b_Disk_touch 2 none :: lw_tb
abbrev b_Disk_mapLongOf : ByteArray := prog_3_method_28_code
def y_Disk_mapLongOf : MethodName := ⟨R_Disk, "mapLongOf", "(I)I"⟩
abbrev w_Disk_mapLongOf : List Cond := .code y_Disk_mapLongOf b_Disk_mapLongOf 1 (some .int) :: lw_tb
abbrev b_Inodes_init : ByteArray := prog_4_method_1_code
def y_Inodes_init : MethodName := ⟨R_Inodes, "<init>", "(LTreeFiles$Disk;)V"⟩
abbrev w_Inodes_init : List Cond := .code y_Inodes_init b_Inodes_init 2 none :: lw_tb
abbrev b_Dirs_init : ByteArray := prog_2_method_1_code
def y_Dirs_init : MethodName := ⟨R_Dirs, "<init>", "(LTreeFiles$Disk;LTreeFiles$Inodes;)V"⟩
abbrev w_Dirs_init : List Cond := .code y_Dirs_init b_Dirs_init 3 none :: lw_tb
abbrev b_Inodes_begin : ByteArray := prog_4_method_9_code
def y_Inodes_begin : MethodName := ⟨R_Inodes, "begin", "(II)V"⟩
abbrev w_Inodes_begin : List Cond := .code y_Inodes_begin b_Inodes_begin 3 none :: lw_tb
abbrev b_Inodes_inodePlace : ByteArray := prog_4_method_16_code
def y_Inodes_inodePlace : MethodName := ⟨R_Inodes, "inodePlace", "(I)I"⟩
abbrev w_Inodes_inodePlace : List Cond := .code y_Inodes_inodePlace b_Inodes_inodePlace 1 (some .int) :: lw_tb
abbrev b_Disk_setByte : ByteArray := prog_3_method_8_code
def y_Disk_setByte : MethodName := ⟨R_Disk, "setByte", "(II)V"⟩
abbrev w_Disk_setByte : List Cond := .code y_Disk_setByte b_Disk_setByte 6 none :: lw_tb
abbrev b_Disk_settle : ByteArray := prog_3_method_15_code
def y_Disk_settle : MethodName := ⟨R_Disk, "settle", "()V"⟩
abbrev w_Disk_settle : List Cond := .code y_Disk_settle b_Disk_settle 2 none :: lw_tb
abbrev b_Disk_compare : ByteArray := prog_3_method_23_code
def y_Disk_compare : MethodName := ⟨R_Disk, "compare", "(I)V"⟩
abbrev w_Disk_compare : List Cond := .code y_Disk_compare b_Disk_compare 5 none :: lw_tb
abbrev b_Disk_differingBlocks : ByteArray := prog_3_method_19_code
def y_Disk_differingBlocks : MethodName := ⟨R_Disk, "differingBlocks", "()I"⟩
abbrev w_Disk_differingBlocks : List Cond := .code y_Disk_differingBlocks b_Disk_differingBlocks 3 (some .int) :: lw_tb
abbrev b_Disk_commitWhatWasBefore : ByteArray := prog_3_method_22_code
def y_Disk_commitWhatWasBefore : MethodName := ⟨R_Disk, "commitWhatWasBefore", "()V"⟩
abbrev w_Disk_commitWhatWasBefore : List Cond := .code y_Disk_commitWhatWasBefore b_Disk_commitWhatWasBefore 2 none :: lw_tb
abbrev b_Disk_copyBlock : ByteArray := prog_3_method_29_code
def y_Disk_copyBlock : MethodName := ⟨R_Disk, "copyBlock", "([J[JI)V"⟩
abbrev w_Disk_copyBlock : List Cond := .code y_Disk_copyBlock b_Disk_copyBlock 3 none :: lw_tb
abbrev b_Disk_isFree : ByteArray := prog_3_method_10_code
def y_Disk_isFree : MethodName := ⟨R_Disk, "isFree", "(I)Z"⟩
abbrev w_Disk_isFree : List Cond := .code y_Disk_isFree b_Disk_isFree 2 (some .boolean) :: lw_tb
abbrev b_Disk_hasBlock : ByteArray := prog_3_method_27_code
def y_Disk_hasBlock : MethodName := ⟨R_Disk, "hasBlock", "(I)Z"⟩
abbrev w_Disk_hasBlock : List Cond := .code y_Disk_hasBlock b_Disk_hasBlock 2 (some .boolean) :: lw_tb
abbrev b_Disk_forgetTouched : ByteArray := prog_3_method_26_code
def y_Disk_forgetTouched : MethodName := ⟨R_Disk, "forgetTouched", "()V"⟩
abbrev w_Disk_forgetTouched : List Cond := .code y_Disk_forgetTouched b_Disk_forgetTouched 2 none :: lw_tb
abbrev b_Disk_commitAll : ByteArray := prog_3_method_17_code
def y_Disk_commitAll : MethodName := ⟨R_Disk, "commitAll", "()V"⟩
abbrev w_Disk_commitAll : List Cond := .code y_Disk_commitAll b_Disk_commitAll 1 none :: lw_tb
abbrev b_Disk_makeAlike : ByteArray := prog_3_method_21_code
def y_Disk_makeAlike : MethodName := ⟨R_Disk, "makeAlike", "([J[J)V"⟩
abbrev w_Disk_makeAlike : List Cond := .code y_Disk_makeAlike b_Disk_makeAlike 4 none :: lw_tb
abbrev b_Tree_commit : ByteArray := prog_1_method_10_code
def y_Tree_commit : MethodName := ⟨R_Tree, "commit", "()I"⟩
abbrev w_Tree_commit : List Cond := .code y_Tree_commit b_Tree_commit 2 (some .int) :: lw_tb
abbrev b_Tree_drop : ByteArray := prog_1_method_11_code
def y_Tree_drop : MethodName := ⟨R_Tree, "drop", "()I"⟩
abbrev w_Tree_drop : List Cond := .code y_Tree_drop b_Tree_drop 2 (some .int) :: lw_tb
abbrev b_Disk_dropAll : ByteArray := prog_3_method_18_code
def y_Disk_dropAll : MethodName := ⟨R_Disk, "dropAll", "()V"⟩
abbrev w_Disk_dropAll : List Cond := .code y_Disk_dropAll b_Disk_dropAll 1 none :: lw_tb
abbrev b_Law_cell : ByteArray := method_2_code
def y_Law_cell : MethodName := ⟨R_Law, "cell", "([II)I"⟩
abbrev w_Law_cell : List Cond := .code y_Law_cell b_Law_cell 2 (some .int) :: lw_tb
abbrev b_Law_feed : ByteArray := method_3_code
def y_Law_feed : MethodName := ⟨R_Law, "feed", "(LTreeFiles;IJ[J)I"⟩
abbrev b_Tree_feed : ByteArray := prog_1_method_2_code
def y_Tree_feed : MethodName := ⟨R_Tree, "feed", "(IJ)I"⟩
abbrev w_Tree_feed : List Cond := .code y_Tree_feed b_Tree_feed 5 (some .int) :: lw_tb
abbrev b_Law_make : ByteArray := method_4_code
def y_Law_make : MethodName := ⟨R_Law, "make", "(LTreeFiles;IIZ[J)I"⟩
abbrev b_Tree_make : ByteArray := prog_1_method_3_code
def y_Tree_make : MethodName := ⟨R_Tree, "make", "(IIZ)I"⟩
abbrev w_Tree_make : List Cond := .code y_Tree_make b_Tree_make 6 (some .int) :: lw_tb
abbrev b_Tree_checkInode : ByteArray := prog_1_method_16_code
def y_Tree_checkInode : MethodName := ⟨R_Tree, "checkInode", "(I)V"⟩
abbrev w_Tree_checkInode : List Cond := .code y_Tree_checkInode b_Tree_checkInode 1 none :: lw_tb
abbrev b_Tree_checkName : ByteArray := prog_1_method_17_code
def y_Tree_checkName : MethodName := ⟨R_Tree, "checkName", "(I)V"⟩
abbrev w_Tree_checkName : List Cond := .code y_Tree_checkName b_Tree_checkName 1 none :: lw_tb
abbrev b_Tree_kindFault : ByteArray := prog_1_method_18_code
def y_Tree_kindFault : MethodName := ⟨R_Tree, "kindFault", "(II)I"⟩
abbrev w_Tree_kindFault : List Cond := .code y_Tree_kindFault b_Tree_kindFault 4 (some .int) :: lw_tb
abbrev b_Inodes_kind : ByteArray := prog_4_method_2_code
def y_Inodes_kind : MethodName := ⟨R_Inodes, "kind", "(I)I"⟩
abbrev w_Inodes_kind : List Cond := .code y_Inodes_kind b_Inodes_kind 2 (some .int) :: lw_tb
abbrev b_Disk_byteAt : ByteArray := prog_3_method_5_code
def y_Disk_byteAt : MethodName := ⟨R_Disk, "byteAt", "(I)I"⟩
abbrev w_Disk_byteAt : List Cond := .code y_Disk_byteAt b_Disk_byteAt 2 (some .int) :: lw_tb
abbrev b_Dirs_entryNamed : ByteArray := prog_2_method_2_code
def y_Dirs_entryNamed : MethodName := ⟨R_Dirs, "entryNamed", "(II)I"⟩
abbrev w_Dirs_entryNamed : List Cond := .code y_Dirs_entryNamed b_Dirs_entryNamed 6 (some .int) :: lw_tb
abbrev b_Inodes_size : ByteArray := prog_4_method_3_code
def y_Inodes_size : MethodName := ⟨R_Inodes, "size", "(I)I"⟩
abbrev w_Inodes_size : List Cond := .code y_Inodes_size b_Inodes_size 2 (some .int) :: lw_tb
abbrev b_Disk_pairAt : ByteArray := prog_3_method_7_code
def y_Disk_pairAt : MethodName := ⟨R_Disk, "pairAt", "(I)I"⟩
abbrev w_Disk_pairAt : List Cond := .code y_Disk_pairAt b_Disk_pairAt 2 (some .int) :: lw_tb
abbrev b_Inodes_placeOf : ByteArray := prog_4_method_12_code
def y_Inodes_placeOf : MethodName := ⟨R_Inodes, "placeOf", "(II)I"⟩
abbrev w_Inodes_placeOf : List Cond := .code y_Inodes_placeOf b_Inodes_placeOf 7 (some .int) :: lw_tb
abbrev b_Inodes_extents : ByteArray := prog_4_method_4_code
def y_Inodes_extents : MethodName := ⟨R_Inodes, "extents", "(I)I"⟩
abbrev w_Inodes_extents : List Cond := .code y_Inodes_extents b_Inodes_extents 2 (some .int) :: lw_tb
abbrev b_Inodes_extentLength : ByteArray := prog_4_method_6_code
def y_Inodes_extentLength : MethodName := ⟨R_Inodes, "extentLength", "(II)I"⟩
abbrev w_Inodes_extentLength : List Cond := .code y_Inodes_extentLength b_Inodes_extentLength 3 (some .int) :: lw_tb
abbrev b_Inodes_extentPlace : ByteArray := prog_4_method_17_code
def y_Inodes_extentPlace : MethodName := ⟨R_Inodes, "extentPlace", "(II)I"⟩
abbrev w_Inodes_extentPlace : List Cond := .code y_Inodes_extentPlace b_Inodes_extentPlace 2 (some .int) :: lw_tb
abbrev b_Inodes_extentFirst : ByteArray := prog_4_method_5_code
def y_Inodes_extentFirst : MethodName := ⟨R_Inodes, "extentFirst", "(II)I"⟩
abbrev w_Inodes_extentFirst : List Cond := .code y_Inodes_extentFirst b_Inodes_extentFirst 3 (some .int) :: lw_tb
abbrev b_Inodes_leastFree : ByteArray := prog_4_method_7_code
def y_Inodes_leastFree : MethodName := ⟨R_Inodes, "leastFree", "()I"⟩
abbrev w_Inodes_leastFree : List Cond := .code y_Inodes_leastFree b_Inodes_leastFree 2 (some .int) :: lw_tb
abbrev b_Dirs_addEntry : ByteArray := prog_2_method_5_code
def y_Dirs_addEntry : MethodName := ⟨R_Dirs, "addEntry", "(III)Z"⟩
abbrev w_Dirs_addEntry : List Cond := .code y_Dirs_addEntry b_Dirs_addEntry 6 (some .boolean) :: lw_tb
abbrev b_Inodes_resize : ByteArray := prog_4_method_11_code
def y_Inodes_resize : MethodName := ⟨R_Inodes, "resize", "(II)Z"⟩
abbrev w_Inodes_resize : List Cond := .code y_Inodes_resize b_Inodes_resize 8 (some .boolean) :: lw_tb
abbrev b_Inodes_blocksFor : ByteArray := prog_4_method_15_code
def y_Inodes_blocksFor : MethodName := ⟨R_Inodes, "blocksFor", "(I)I"⟩
abbrev w_Inodes_blocksFor : List Cond := .code y_Inodes_blocksFor b_Inodes_blocksFor 1 (some .int) :: lw_tb
abbrev b_Inodes_takeBlock : ByteArray := prog_4_method_13_code
def y_Inodes_takeBlock : MethodName := ⟨R_Inodes, "takeBlock", "(I)Z"⟩
abbrev w_Inodes_takeBlock : List Cond := .code y_Inodes_takeBlock b_Inodes_takeBlock 5 (some .boolean) :: lw_tb
abbrev b_Disk_takeBlock : ByteArray := prog_3_method_13_code
def y_Disk_takeBlock : MethodName := ⟨R_Disk, "takeBlock", "(I)V"⟩
abbrev w_Disk_takeBlock : List Cond := .code y_Disk_takeBlock b_Disk_takeBlock 3 none :: lw_tb
abbrev b_Disk_leastFree : ByteArray := prog_3_method_11_code
def y_Disk_leastFree : MethodName := ⟨R_Disk, "leastFree", "()I"⟩
abbrev w_Disk_leastFree : List Cond := .code y_Disk_leastFree b_Disk_leastFree 2 (some .int) :: lw_tb
abbrev b_Disk_setPair : ByteArray := prog_3_method_9_code
def y_Disk_setPair : MethodName := ⟨R_Disk, "setPair", "(II)V"⟩
abbrev w_Disk_setPair : List Cond := .code y_Disk_setPair b_Disk_setPair 3 none :: lw_tb
abbrev b_Inodes_giveBlockBack : ByteArray := prog_4_method_14_code
def y_Inodes_giveBlockBack : MethodName := ⟨R_Inodes, "giveBlockBack", "(I)V"⟩
abbrev w_Inodes_giveBlockBack : List Cond := .code y_Inodes_giveBlockBack b_Inodes_giveBlockBack 4 none :: lw_tb
abbrev b_Disk_giveBlockBack : ByteArray := prog_3_method_14_code
def y_Disk_giveBlockBack : MethodName := ⟨R_Disk, "giveBlockBack", "(I)V"⟩
abbrev w_Disk_giveBlockBack : List Cond := .code y_Disk_giveBlockBack b_Disk_giveBlockBack 2 none :: lw_tb
abbrev b_Dirs_setEntry : ByteArray := prog_2_method_6_code
def y_Dirs_setEntry : MethodName := ⟨R_Dirs, "setEntry", "(III)V"⟩
abbrev w_Dirs_setEntry : List Cond := .code y_Dirs_setEntry b_Dirs_setEntry 4 none :: lw_tb
abbrev b_Disk_undo : ByteArray := prog_3_method_16_code
def y_Disk_undo : MethodName := ⟨R_Disk, "undo", "()V"⟩
abbrev w_Disk_undo : List Cond := .code y_Disk_undo b_Disk_undo 2 none :: lw_tb
abbrev b_Law_find : ByteArray := method_5_code
def y_Law_find : MethodName := ⟨R_Law, "find", "(LTreeFiles;II[J)I"⟩
abbrev b_Tree_find : ByteArray := prog_1_method_4_code
def y_Tree_find : MethodName := ⟨R_Tree, "find", "(II)I"⟩
abbrev w_Tree_find : List Cond := .code y_Tree_find b_Tree_find 4 (some .int) :: lw_tb
abbrev b_Tree_entryOrFault : ByteArray := prog_1_method_19_code
def y_Tree_entryOrFault : MethodName := ⟨R_Tree, "entryOrFault", "(II)I"⟩
abbrev w_Tree_entryOrFault : List Cond := .code y_Tree_entryOrFault b_Tree_entryOrFault 5 (some .int) :: lw_tb
abbrev b_Dirs_inodeOf : ByteArray := prog_2_method_3_code
def y_Dirs_inodeOf : MethodName := ⟨R_Dirs, "inodeOf", "(I)I"⟩
abbrev w_Dirs_inodeOf : List Cond := .code y_Dirs_inodeOf b_Dirs_inodeOf 2 (some .int) :: lw_tb
abbrev b_Law_write : ByteArray := method_6_code
def y_Law_write : MethodName := ⟨R_Law, "write", "(LTreeFiles;II[J)I"⟩
abbrev b_Tree_write : ByteArray := prog_1_method_5_code
def y_Tree_write : MethodName := ⟨R_Tree, "write", "(II)I"⟩
abbrev w_Tree_write : List Cond := .code y_Tree_write b_Tree_write 8 (some .int) :: lw_tb
abbrev b_Law_cut : ByteArray := method_7_code
def y_Law_cut : MethodName := ⟨R_Law, "cut", "(LTreeFiles;II[J)I"⟩
abbrev b_Tree_cut : ByteArray := prog_1_method_6_code
def y_Tree_cut : MethodName := ⟨R_Tree, "cut", "(II)I"⟩
abbrev w_Tree_cut : List Cond := .code y_Tree_cut b_Tree_cut 4 (some .int) :: lw_tb
abbrev b_Law_read : ByteArray := method_8_code
def y_Law_read : MethodName := ⟨R_Law, "read", "(LTreeFiles;II[J)I"⟩
abbrev b_Tree_read : ByteArray := prog_1_method_7_code
def y_Tree_read : MethodName := ⟨R_Tree, "read", "(II)J"⟩
abbrev w_Tree_read : List Cond := .code y_Tree_read b_Tree_read 6 (some .long) :: lw_tb
abbrev b_Law_move : ByteArray := method_9_code
def y_Law_move : MethodName := ⟨R_Law, "move", "(LTreeFiles;IIII[J)I"⟩
abbrev b_Tree_move : ByteArray := prog_1_method_8_code
def y_Tree_move : MethodName := ⟨R_Tree, "move", "(IIII)I"⟩
abbrev w_Tree_move : List Cond := .code y_Tree_move b_Tree_move 9 (some .int) :: lw_tb
abbrev b_Tree_moveFault : ByteArray := prog_1_method_20_code
def y_Tree_moveFault : MethodName := ⟨R_Tree, "moveFault", "(III)I"⟩
abbrev w_Tree_moveFault : List Cond := .code y_Tree_moveFault b_Tree_moveFault 6 (some .int) :: lw_tb
abbrev b_Tree_hasEntries : ByteArray := prog_1_method_21_code
def y_Tree_hasEntries : MethodName := ⟨R_Tree, "hasEntries", "(I)Z"⟩
abbrev w_Tree_hasEntries : List Cond := .code y_Tree_hasEntries b_Tree_hasEntries 2 (some .boolean) :: lw_tb
abbrev b_Dirs_isEmpty : ByteArray := prog_2_method_4_code
def y_Dirs_isEmpty : MethodName := ⟨R_Dirs, "isEmpty", "(I)Z"⟩
abbrev w_Dirs_isEmpty : List Cond := .code y_Dirs_isEmpty b_Dirs_isEmpty 4 (some .boolean) :: lw_tb
abbrev b_Dirs_isWithin : ByteArray := prog_2_method_8_code
def y_Dirs_isWithin : MethodName := ⟨R_Dirs, "isWithin", "(II)Z"⟩
abbrev w_Dirs_isWithin : List Cond := .code y_Dirs_isWithin b_Dirs_isWithin 5 (some .boolean) :: lw_tb
abbrev b_Dirs_fillParents : ByteArray := prog_2_method_9_code
def y_Dirs_fillParents : MethodName := ⟨R_Dirs, "fillParents", "()V"⟩
abbrev w_Dirs_fillParents : List Cond := .code y_Dirs_fillParents b_Dirs_fillParents 5 none :: lw_tb
abbrev b_Dirs_clearEntry : ByteArray := prog_2_method_7_code
def y_Dirs_clearEntry : MethodName := ⟨R_Dirs, "clearEntry", "(I)V"⟩
abbrev w_Dirs_clearEntry : List Cond := .code y_Dirs_clearEntry b_Dirs_clearEntry 2 none :: lw_tb
abbrev b_Inodes_release : ByteArray := prog_4_method_10_code
def y_Inodes_release : MethodName := ⟨R_Inodes, "release", "(I)V"⟩
abbrev w_Inodes_release : List Cond := .code y_Inodes_release b_Inodes_release 2 none :: lw_tb
abbrev b_Law_remove : ByteArray := method_10_code
def y_Law_remove : MethodName := ⟨R_Law, "remove", "(LTreeFiles;II[J)I"⟩
abbrev b_Tree_remove : ByteArray := prog_1_method_9_code
def y_Tree_remove : MethodName := ⟨R_Tree, "remove", "(II)I"⟩
abbrev w_Tree_remove : List Cond := .code y_Tree_remove b_Tree_remove 5 (some .int) :: lw_tb
abbrev b_Law_node : ByteArray := method_11_code
def y_Law_node : MethodName := ⟨R_Law, "node", "(LTreeFiles;II[J)I"⟩
abbrev b_Tree_node : ByteArray := prog_1_method_12_code
def y_Tree_node : MethodName := ⟨R_Tree, "node", "(II)I"⟩
abbrev w_Tree_node : List Cond := .code y_Tree_node b_Tree_node 4 (some .int) :: lw_tb
abbrev b_Law_at : ByteArray := method_12_code
def y_Law_at : MethodName := ⟨R_Law, "at", "(LTreeFiles;IIZ[J)I"⟩
abbrev b_Tree_at : ByteArray := prog_1_method_13_code
def y_Tree_at : MethodName := ⟨R_Tree, "at", "(IIZ)I"⟩
abbrev w_Tree_at : List Cond := .code y_Tree_at b_Tree_at 5 (some .int) :: lw_tb
abbrev b_Disk_hasByte : ByteArray := prog_3_method_4_code
def y_Disk_hasByte : MethodName := ⟨R_Disk, "hasByte", "(II)Z"⟩
abbrev w_Disk_hasByte : List Cond := .code y_Disk_hasByte b_Disk_hasByte 3 (some .boolean) :: lw_tb
abbrev b_Disk_committedByteAt : ByteArray := prog_3_method_6_code
def y_Disk_committedByteAt : MethodName := ⟨R_Disk, "committedByteAt", "(I)I"⟩
abbrev w_Disk_committedByteAt : List Cond := .code y_Disk_committedByteAt b_Disk_committedByteAt 2 (some .int) :: lw_tb
abbrev b_Law_changed : ByteArray := method_13_code
def y_Law_changed : MethodName := ⟨R_Law, "changed", "(LTreeFiles;I[J)I"⟩
abbrev b_Tree_changed : ByteArray := prog_1_method_14_code
def y_Tree_changed : MethodName := ⟨R_Tree, "changed", "(I)I"⟩
abbrev w_Tree_changed : List Cond := .code y_Tree_changed b_Tree_changed 3 (some .int) :: lw_tb
abbrev b_Disk_differingBlock : ByteArray := prog_3_method_20_code
def y_Disk_differingBlock : MethodName := ⟨R_Disk, "differingBlock", "(I)I"⟩
abbrev w_Disk_differingBlock : List Cond := .code y_Disk_differingBlock b_Disk_differingBlock 4 (some .int) :: lw_tb
abbrev b_Law_look : ByteArray := method_14_code
def y_Law_look : MethodName := ⟨R_Law, "look", "(LTreeFiles;I[J)I"⟩
abbrev b_Tree_look : ByteArray := prog_1_method_15_code
def y_Tree_look : MethodName := ⟨R_Tree, "look", "(I)I"⟩
abbrev w_Tree_look : List Cond := .code y_Tree_look b_Tree_look 2 (some .int) :: lw_tb
abbrev b_Disk_blocks : ByteArray := prog_3_method_2_code
def y_Disk_blocks : MethodName := ⟨R_Disk, "blocks", "()I"⟩
abbrev w_Disk_blocks : List Cond := .code y_Disk_blocks b_Disk_blocks 1 (some .int) :: lw_tb
abbrev b_Disk_freeBlocks : ByteArray := prog_3_method_12_code
def y_Disk_freeBlocks : MethodName := ⟨R_Disk, "freeBlocks", "()I"⟩
abbrev w_Disk_freeBlocks : List Cond := .code y_Disk_freeBlocks b_Disk_freeBlocks 3 (some .int) :: lw_tb
abbrev b_Inodes_ofKind : ByteArray := prog_4_method_8_code
def y_Inodes_ofKind : MethodName := ⟨R_Inodes, "ofKind", "(I)I"⟩
abbrev w_Inodes_ofKind : List Cond := .code y_Inodes_ofKind b_Inodes_ofKind 4 (some .int) :: lw_tb
abbrev b_Disk_earlyCommits : ByteArray := prog_3_method_3_code
def y_Disk_earlyCommits : MethodName := ⟨R_Disk, "earlyCommits", "()I"⟩
abbrev w_Disk_earlyCommits : List Cond := .code y_Disk_earlyCommits b_Disk_earlyCommits 1 (some .int) :: lw_tb
abbrev b_Mod_init : ByteArray := prog_6_method_1_code
def y_Mod_init : MethodName := ⟨R_Mod, "<init>", "(I)V"⟩
abbrev w_Mod_init : List Cond := .code y_Mod_init b_Mod_init 3 none :: lw_tb
abbrev b_Mod_commitsAll : ByteArray := prog_6_method_11_code
def y_Mod_commitsAll : MethodName := ⟨R_Mod, "commitsAll", "()I"⟩
abbrev w_Mod_commitsAll : List Cond := .code y_Mod_commitsAll b_Mod_commitsAll 4 (some .int) :: lw_tb
abbrev b_Mod_changes : ByteArray := prog_6_method_9_code
def y_Mod_changes : MethodName := ⟨R_Mod, "changes", "()I"⟩
abbrev w_Mod_changes : List Cond := .code y_Mod_changes b_Mod_changes 3 (some .int) :: lw_tb
abbrev b_Mod_isChanged : ByteArray := prog_6_method_8_code
def y_Mod_isChanged : MethodName := ⟨R_Mod, "isChanged", "(I)Z"⟩
abbrev w_Mod_isChanged : List Cond := .code y_Mod_isChanged b_Mod_isChanged 4 (some .boolean) :: lw_tb
abbrev b_Mod_byteOf : ByteArray := prog_6_method_7_code
def y_Mod_byteOf : MethodName := ⟨R_Mod, "byteOf", "(II)I"⟩
abbrev w_Mod_byteOf : List Cond := .code y_Mod_byteOf b_Mod_byteOf 3 (some .int) :: lw_tb
abbrev b_Mod_nodeByte : ByteArray := prog_6_method_5_code
def y_Mod_nodeByte : MethodName := ⟨R_Mod, "nodeByte", "(II)I"⟩
abbrev w_Mod_nodeByte : List Cond := .code y_Mod_nodeByte b_Mod_nodeByte 6 (some .int) :: lw_tb
abbrev b_Mod_mapByte : ByteArray := prog_6_method_6_code
def y_Mod_mapByte : MethodName := ⟨R_Mod, "mapByte", "(I)I"⟩
abbrev w_Mod_mapByte : List Cond := .code y_Mod_mapByte b_Mod_mapByte 4 (some .int) :: lw_tb
abbrev b_Mod_copy : ByteArray := prog_6_method_10_code
def y_Mod_copy : MethodName := ⟨R_Mod, "copy", "([I[I)V"⟩
abbrev w_Mod_copy : List Cond := .code y_Mod_copy b_Mod_copy 3 none :: lw_tb
abbrev b_Mod_thrown : ByteArray := prog_6_method_2_code
def y_Mod_thrown : MethodName := ⟨R_Mod, "thrown", "()I"⟩
abbrev w_Mod_thrown : List Cond := .code y_Mod_thrown b_Mod_thrown 1 (some .int) :: lw_tb
abbrev b_Mod_feed : ByteArray := prog_6_method_40_code
def y_Mod_feed : MethodName := ⟨R_Mod, "feed", "(IJ)I"⟩
abbrev w_Mod_feed : List Cond := .code y_Mod_feed b_Mod_feed 5 (some .int) :: lw_tb
abbrev b_Mod_in : ByteArray := prog_6_method_4_code
def y_Mod_in : MethodName := ⟨R_Mod, "in", "(III)Z"⟩
abbrev w_Mod_in : List Cond := .code y_Mod_in b_Mod_in 3 (some .boolean) :: lw_tb
abbrev b_Mod_fails : ByteArray := prog_6_method_3_code
def y_Mod_fails : MethodName := ⟨R_Mod, "fails", "(ZI)Z"⟩
abbrev w_Mod_fails : List Cond := .code y_Mod_fails b_Mod_fails 3 (some .boolean) :: lw_tb
abbrev b_Mod_make : ByteArray := prog_6_method_43_code
def y_Mod_make : MethodName := ⟨R_Mod, "make", "(IIZ)I"⟩
abbrev w_Mod_make : List Cond := .code y_Mod_make b_Mod_make 4 (some .int) :: lw_tb
abbrev b_Mod_isBad : ByteArray := prog_6_method_41_code
def y_Mod_isBad : MethodName := ⟨R_Mod, "isBad", "(I)Z"⟩
abbrev w_Mod_isBad : List Cond := .code y_Mod_isBad b_Mod_isBad 1 (some .boolean) :: lw_tb
abbrev b_Mod_isBadName : ByteArray := prog_6_method_42_code
def y_Mod_isBadName : MethodName := ⟨R_Mod, "isBadName", "(I)Z"⟩
abbrev w_Mod_isBadName : List Cond := .code y_Mod_isBadName b_Mod_isBadName 1 (some .boolean) :: lw_tb
abbrev b_Mod_does : ByteArray := prog_6_method_39_code
def y_Mod_does : MethodName := ⟨R_Mod, "does", "(IIIII)I"⟩
abbrev w_Mod_does : List Cond := .code y_Mod_does b_Mod_does 7 (some .int) :: lw_tb
abbrev b_Mod_keepsAside : ByteArray := prog_6_method_12_code
def y_Mod_keepsAside : MethodName := ⟨R_Mod, "keepsAside", "()V"⟩
abbrev w_Mod_keepsAside : List Cond := .code y_Mod_keepsAside b_Mod_keepsAside 1 none :: lw_tb
abbrev b_Mod_tries : ByteArray := prog_6_method_38_code
def y_Mod_tries : MethodName := ⟨R_Mod, "tries", "(IIIII)I"⟩
abbrev w_Mod_tries : List Cond := .code y_Mod_tries b_Mod_tries 6 (some .int) :: lw_tb
abbrev b_Mod_makes : ByteArray := prog_6_method_33_code
def y_Mod_makes : MethodName := ⟨R_Mod, "makes", "(IIZ)I"⟩
abbrev w_Mod_makes : List Cond := .code y_Mod_makes b_Mod_makes 5 (some .int) :: lw_tb
abbrev b_Mod_badDirectory : ByteArray := prog_6_method_30_code
def y_Mod_badDirectory : MethodName := ⟨R_Mod, "badDirectory", "(I)I"⟩
abbrev w_Mod_badDirectory : List Cond := .code y_Mod_badDirectory b_Mod_badDirectory 2 (some .int) :: lw_tb
abbrev b_Mod_kind : ByteArray := prog_6_method_14_code
def y_Mod_kind : MethodName := ⟨R_Mod, "kind", "(I)I"⟩
abbrev w_Mod_kind : List Cond := .code y_Mod_kind b_Mod_kind 2 (some .int) :: lw_tb
abbrev b_Mod_entryOf : ByteArray := prog_6_method_25_code
def y_Mod_entryOf : MethodName := ⟨R_Mod, "entryOf", "(II)I"⟩
abbrev w_Mod_entryOf : List Cond := .code y_Mod_entryOf b_Mod_entryOf 4 (some .int) :: lw_tb
abbrev b_Mod_sizeOf : ByteArray := prog_6_method_15_code
def y_Mod_sizeOf : MethodName := ⟨R_Mod, "sizeOf", "(I)I"⟩
abbrev w_Mod_sizeOf : List Cond := .code y_Mod_sizeOf b_Mod_sizeOf 2 (some .int) :: lw_tb
abbrev b_Mod_nameAt : ByteArray := prog_6_method_24_code
def y_Mod_nameAt : MethodName := ⟨R_Mod, "nameAt", "(II)I"⟩
abbrev w_Mod_nameAt : List Cond := .code y_Mod_nameAt b_Mod_nameAt 3 (some .int) :: lw_tb
abbrev b_Mod_get : ByteArray := prog_6_method_22_code
def y_Mod_get : MethodName := ⟨R_Mod, "get", "(II)I"⟩
abbrev w_Mod_get : List Cond := .code y_Mod_get b_Mod_get 3 (some .int) :: lw_tb
abbrev b_Mod_blockOf : ByteArray := prog_6_method_16_code
def y_Mod_blockOf : MethodName := ⟨R_Mod, "blockOf", "(II)I"⟩
abbrev w_Mod_blockOf : List Cond := .code y_Mod_blockOf b_Mod_blockOf 6 (some .int) :: lw_tb
abbrev b_Mod_adds : ByteArray := prog_6_method_28_code
def y_Mod_adds : MethodName := ⟨R_Mod, "adds", "(III)Z"⟩
abbrev w_Mod_adds : List Cond := .code y_Mod_adds b_Mod_adds 5 (some .boolean) :: lw_tb
abbrev b_Mod_sizes : ByteArray := prog_6_method_20_code
def y_Mod_sizes : MethodName := ⟨R_Mod, "sizes", "(II)Z"⟩
abbrev w_Mod_sizes : List Cond := .code y_Mod_sizes b_Mod_sizes 6 (some .boolean) :: lw_tb
abbrev b_Mod_blocksOf : ByteArray := prog_6_method_17_code
def y_Mod_blocksOf : MethodName := ⟨R_Mod, "blocksOf", "(I)I"⟩
abbrev w_Mod_blocksOf : List Cond := .code y_Mod_blocksOf b_Mod_blocksOf 4 (some .int) :: lw_tb
abbrev b_Mod_takes : ByteArray := prog_6_method_18_code
def y_Mod_takes : MethodName := ⟨R_Mod, "takes", "(I)Z"⟩
abbrev w_Mod_takes : List Cond := .code y_Mod_takes b_Mod_takes 8 (some .boolean) :: lw_tb
abbrev b_Mod_gives : ByteArray := prog_6_method_19_code
def y_Mod_gives : MethodName := ⟨R_Mod, "gives", "(I)V"⟩
abbrev w_Mod_gives : List Cond := .code y_Mod_gives b_Mod_gives 4 none :: lw_tb
abbrev b_Mod_put : ByteArray := prog_6_method_23_code
def y_Mod_put : MethodName := ⟨R_Mod, "put", "(III)V"⟩
abbrev w_Mod_put : List Cond := .code y_Mod_put b_Mod_put 4 none :: lw_tb
abbrev b_Mod_enters : ByteArray := prog_6_method_27_code
def y_Mod_enters : MethodName := ⟨R_Mod, "enters", "(IIII)V"⟩
abbrev w_Mod_enters : List Cond := .code y_Mod_enters b_Mod_enters 5 none :: lw_tb
abbrev b_Mod_writes : ByteArray := prog_6_method_34_code
def y_Mod_writes : MethodName := ⟨R_Mod, "writes", "(III)I"⟩
abbrev w_Mod_writes : List Cond := .code y_Mod_writes b_Mod_writes 6 (some .int) :: lw_tb
abbrev b_Mod_badFile : ByteArray := prog_6_method_31_code
def y_Mod_badFile : MethodName := ⟨R_Mod, "badFile", "(I)I"⟩
abbrev w_Mod_badFile : List Cond := .code y_Mod_badFile b_Mod_badFile 2 (some .int) :: lw_tb
abbrev b_Mod_cuts : ByteArray := prog_6_method_35_code
def y_Mod_cuts : MethodName := ⟨R_Mod, "cuts", "(II)I"⟩
abbrev w_Mod_cuts : List Cond := .code y_Mod_cuts b_Mod_cuts 3 (some .int) :: lw_tb
abbrev b_Mod_moves : ByteArray := prog_6_method_36_code
def y_Mod_moves : MethodName := ⟨R_Mod, "moves", "(IIII)I"⟩
abbrev w_Mod_moves : List Cond := .code y_Mod_moves b_Mod_moves 10 (some .int) :: lw_tb
abbrev b_Mod_inodeAt : ByteArray := prog_6_method_26_code
def y_Mod_inodeAt : MethodName := ⟨R_Mod, "inodeAt", "(II)I"⟩
abbrev w_Mod_inodeAt : List Cond := .code y_Mod_inodeAt b_Mod_inodeAt 3 (some .int) :: lw_tb
abbrev b_Mod_isEmpty : ByteArray := prog_6_method_29_code
def y_Mod_isEmpty : MethodName := ⟨R_Mod, "isEmpty", "(I)Z"⟩
abbrev w_Mod_isEmpty : List Cond := .code y_Mod_isEmpty b_Mod_isEmpty 4 (some .boolean) :: lw_tb
abbrev b_Mod_parentOf : ByteArray := prog_6_method_32_code
def y_Mod_parentOf : MethodName := ⟨R_Mod, "parentOf", "(I)I"⟩
abbrev w_Mod_parentOf : List Cond := .code y_Mod_parentOf b_Mod_parentOf 4 (some .int) :: lw_tb
abbrev b_Mod_frees : ByteArray := prog_6_method_21_code
def y_Mod_frees : MethodName := ⟨R_Mod, "frees", "(I)V"⟩
abbrev w_Mod_frees : List Cond := .code y_Mod_frees b_Mod_frees 3 none :: lw_tb
abbrev b_Mod_removes : ByteArray := prog_6_method_37_code
def y_Mod_removes : MethodName := ⟨R_Mod, "removes", "(II)I"⟩
abbrev w_Mod_removes : List Cond := .code y_Mod_removes b_Mod_removes 5 (some .int) :: lw_tb
abbrev b_Mod_bringsBack : ByteArray := prog_6_method_13_code
def y_Mod_bringsBack : MethodName := ⟨R_Mod, "bringsBack", "()V"⟩
abbrev w_Mod_bringsBack : List Cond := .code y_Mod_bringsBack b_Mod_bringsBack 1 none :: lw_tb
abbrev b_Mod_find : ByteArray := prog_6_method_44_code
def y_Mod_find : MethodName := ⟨R_Mod, "find", "(II)I"⟩
abbrev w_Mod_find : List Cond := .code y_Mod_find b_Mod_find 4 (some .int) :: lw_tb
abbrev b_Mod_write : ByteArray := prog_6_method_45_code
def y_Mod_write : MethodName := ⟨R_Mod, "write", "(II)I"⟩
abbrev w_Mod_write : List Cond := .code y_Mod_write b_Mod_write 4 (some .int) :: lw_tb
abbrev b_Mod_cut : ByteArray := prog_6_method_46_code
def y_Mod_cut : MethodName := ⟨R_Mod, "cut", "(II)I"⟩
abbrev w_Mod_cut : List Cond := .code y_Mod_cut b_Mod_cut 3 (some .int) :: lw_tb
abbrev b_Mod_read : ByteArray := prog_6_method_47_code
def y_Mod_read : MethodName := ⟨R_Mod, "read", "(II)J"⟩
abbrev w_Mod_read : List Cond := .code y_Mod_read b_Mod_read 6 (some .long) :: lw_tb
abbrev b_Mod_move : ByteArray := prog_6_method_48_code
def y_Mod_move : MethodName := ⟨R_Mod, "move", "(IIII)I"⟩
abbrev w_Mod_move : List Cond := .code y_Mod_move b_Mod_move 6 (some .int) :: lw_tb
abbrev b_Mod_remove : ByteArray := prog_6_method_49_code
def y_Mod_remove : MethodName := ⟨R_Mod, "remove", "(II)I"⟩
abbrev w_Mod_remove : List Cond := .code y_Mod_remove b_Mod_remove 3 (some .int) :: lw_tb
abbrev b_Mod_commit : ByteArray := prog_6_method_50_code
def y_Mod_commit : MethodName := ⟨R_Mod, "commit", "()I"⟩
abbrev w_Mod_commit : List Cond := .code y_Mod_commit b_Mod_commit 1 (some .int) :: lw_tb
abbrev b_Mod_drop : ByteArray := prog_6_method_51_code
def y_Mod_drop : MethodName := ⟨R_Mod, "drop", "()I"⟩
abbrev w_Mod_drop : List Cond := .code y_Mod_drop b_Mod_drop 2 (some .int) :: lw_tb
abbrev b_Mod_node : ByteArray := prog_6_method_52_code
def y_Mod_node : MethodName := ⟨R_Mod, "node", "(II)I"⟩
abbrev w_Mod_node : List Cond := .code y_Mod_node b_Mod_node 3 (some .int) :: lw_tb
abbrev b_Mod_at : ByteArray := prog_6_method_53_code
def y_Mod_at : MethodName := ⟨R_Mod, "at", "(IIZ)I"⟩
abbrev w_Mod_at : List Cond := .code y_Mod_at b_Mod_at 4 (some .int) :: lw_tb
abbrev b_Mod_changed : ByteArray := prog_6_method_54_code
def y_Mod_changed : MethodName := ⟨R_Mod, "changed", "(I)I"⟩
abbrev w_Mod_changed : List Cond := .code y_Mod_changed b_Mod_changed 4 (some .int) :: lw_tb
abbrev b_Mod_look : ByteArray := prog_6_method_55_code
def y_Mod_look : MethodName := ⟨R_Mod, "look", "(I)I"⟩
abbrev w_Mod_look : List Cond := .code y_Mod_look b_Mod_look 6 (some .int) :: lw_tb
theorem k_0 : (.selects R_Disk y_Disk_flipMapBit y_Disk_flipMapBit : Cond) ∈ lw_tb := tb_in (List.mem_of_getElem? (i := 0) (by decide +kernel)) (by decide +kernel)
theorem k_1 : (.selects R_Disk y_Disk_touch y_Disk_touch : Cond) ∈ lw_tb := tb_in (List.mem_of_getElem? (i := 1) (by decide +kernel)) (by decide +kernel)
theorem k_2 : (.selects R_Disk y_Disk_compare y_Disk_compare : Cond) ∈ lw_tb := tb_in (List.mem_of_getElem? (i := 2) (by decide +kernel)) (by decide +kernel)
theorem k_3 : (.selects R_Disk y_Disk_commitWhatWasBefore y_Disk_commitWhatWasBefore : Cond) ∈ lw_tb := tb_in (List.mem_of_getElem? (i := 3) (by decide +kernel)) (by decide +kernel)
theorem k_4 : (.selects R_Disk y_Disk_hasBlock y_Disk_hasBlock : Cond) ∈ lw_tb := tb_in (List.mem_of_getElem? (i := 4) (by decide +kernel)) (by decide +kernel)
theorem k_5 : (.selects R_Disk y_Disk_forgetTouched y_Disk_forgetTouched : Cond) ∈ lw_tb := tb_in (List.mem_of_getElem? (i := 5) (by decide +kernel)) (by decide +kernel)
theorem k_6 : (.selects R_Disk y_Disk_makeAlike y_Disk_makeAlike : Cond) ∈ lw_tb := tb_in (List.mem_of_getElem? (i := 6) (by decide +kernel)) (by decide +kernel)
theorem k_8 : (.selects R_Tree y_Tree_kindFault y_Tree_kindFault : Cond) ∈ lw_tb := tb_in (List.mem_of_getElem? (i := 8) (by decide +kernel)) (by decide +kernel)
theorem k_9 : (.selects R_Inodes y_Inodes_takeBlock y_Inodes_takeBlock : Cond) ∈ lw_tb := tb_in (List.mem_of_getElem? (i := 9) (by decide +kernel)) (by decide +kernel)
theorem k_10 : (.selects R_Inodes y_Inodes_giveBlockBack y_Inodes_giveBlockBack : Cond) ∈ lw_tb := tb_in (List.mem_of_getElem? (i := 10) (by decide +kernel)) (by decide +kernel)
theorem k_11 : (.selects R_Tree y_Tree_entryOrFault y_Tree_entryOrFault : Cond) ∈ lw_tb := tb_in (List.mem_of_getElem? (i := 11) (by decide +kernel)) (by decide +kernel)
theorem k_12 : (.selects R_Tree y_Tree_moveFault y_Tree_moveFault : Cond) ∈ lw_tb := tb_in (List.mem_of_getElem? (i := 12) (by decide +kernel)) (by decide +kernel)
theorem k_13 : (.selects R_Tree y_Tree_hasEntries y_Tree_hasEntries : Cond) ∈ lw_tb := tb_in (List.mem_of_getElem? (i := 13) (by decide +kernel)) (by decide +kernel)
theorem k_14 : (.selects R_Dirs y_Dirs_fillParents y_Dirs_fillParents : Cond) ∈ lw_tb := tb_in (List.mem_of_getElem? (i := 14) (by decide +kernel)) (by decide +kernel)
theorem k_51 : (.initialized R_Tree : Cond) ∈ lw_tb := tb_in (List.mem_of_getElem? (i := 51) (by decide +kernel)) (by decide +kernel)
theorem k_52 : (.initialized R_Disk : Cond) ∈ lw_tb := tb_in (List.mem_of_getElem? (i := 52) (by decide +kernel)) (by decide +kernel)
theorem k_53 : (.initialized "java/lang/System" : Cond) ∈ lw_tb := tb_in (List.mem_of_getElem? (i := 53) (by decide +kernel)) (by decide +kernel)
theorem k_54 : (.initialized R_Inodes : Cond) ∈ lw_tb := tb_in (List.mem_of_getElem? (i := 54) (by decide +kernel)) (by decide +kernel)
theorem k_55 : (.initialized R_Dirs : Cond) ∈ lw_tb := tb_in (List.mem_of_getElem? (i := 55) (by decide +kernel)) (by decide +kernel)
theorem k_62 : (.initialized "java/lang/Math" : Cond) ∈ lw_tb := tb_in (List.mem_of_getElem? (i := 62) (by decide +kernel)) (by decide +kernel)
theorem k_78 : (.methodLink R_Disk 35 y_Disk_flipMapBit : Cond) ∈ lw_tb := tb_in (List.mem_of_getElem? (i := 78) (by decide +kernel)) (by decide +kernel)
theorem k_80 : (.instanceMethod y_Disk_flipMapBit : Cond) ∈ lw_tb := tb_in (List.mem_of_getElem? (i := 80) (by decide +kernel)) (by decide +kernel)
theorem k_81 : (.code y_Disk_flipMapBit b_Disk_flipMapBit 2 none : Cond) ∈ lw_tb := tb_in (List.mem_of_getElem? (i := 81) (by decide +kernel)) (by decide +kernel)
theorem k_82 : (.methodLink R_Disk 47 y_Disk_touch : Cond) ∈ lw_tb := tb_in (List.mem_of_getElem? (i := 82) (by decide +kernel)) (by decide +kernel)
theorem k_84 : (.instanceMethod y_Disk_touch : Cond) ∈ lw_tb := tb_in (List.mem_of_getElem? (i := 84) (by decide +kernel)) (by decide +kernel)
theorem k_85 : (.code y_Disk_touch b_Disk_touch 2 none : Cond) ∈ lw_tb := tb_in (List.mem_of_getElem? (i := 85) (by decide +kernel)) (by decide +kernel)
theorem k_86 : (.methodLink R_Disk 85 arraycopyName : Cond) ∈ lw_tb := tb_in (List.mem_of_getElem? (i := 86) (by decide +kernel)) (by decide +kernel)
theorem k_87 : (.static arraycopyName : Cond) ∈ lw_tb := tb_in (List.mem_of_getElem? (i := 87) (by decide +kernel)) (by decide +kernel)
theorem k_88 : (.native arraycopyName : Cond) ∈ lw_tb := tb_in (List.mem_of_getElem? (i := 88) (by decide +kernel)) (by decide +kernel)
theorem k_89 : (.methodLink R_Disk 58 y_Disk_mapLongOf : Cond) ∈ lw_tb := tb_in (List.mem_of_getElem? (i := 89) (by decide +kernel)) (by decide +kernel)
theorem k_90 : (.static y_Disk_mapLongOf : Cond) ∈ lw_tb := tb_in (List.mem_of_getElem? (i := 90) (by decide +kernel)) (by decide +kernel)
theorem k_91 : (.code y_Disk_mapLongOf b_Disk_mapLongOf 1 (some .int) : Cond) ∈ lw_tb := tb_in (List.mem_of_getElem? (i := 91) (by decide +kernel)) (by decide +kernel)
theorem k_92 : (.fieldLink R_Disk 9 "TreeFiles$Disk" "blocks" "I" : Cond) ∈ lw_tb := tb_in (List.mem_of_getElem? (i := 92) (by decide +kernel)) (by decide +kernel)
theorem k_93 : (.fieldLink R_Disk 15 "TreeFiles$Disk" "now" "[J" : Cond) ∈ lw_tb := tb_in (List.mem_of_getElem? (i := 93) (by decide +kernel)) (by decide +kernel)
theorem k_94 : (.fieldLink R_Disk 19 "TreeFiles$Disk" "committed" "[J" : Cond) ∈ lw_tb := tb_in (List.mem_of_getElem? (i := 94) (by decide +kernel)) (by decide +kernel)
theorem k_95 : (.fieldLink R_Disk 22 "TreeFiles$Disk" "before" "[J" : Cond) ∈ lw_tb := tb_in (List.mem_of_getElem? (i := 95) (by decide +kernel)) (by decide +kernel)
theorem k_96 : (.fieldLink R_Disk 25 "TreeFiles$Disk" "touched" "[Z" : Cond) ∈ lw_tb := tb_in (List.mem_of_getElem? (i := 96) (by decide +kernel)) (by decide +kernel)
theorem k_97 : (.fieldLink R_Disk 29 "TreeFiles$Disk" "differs" "[Z" : Cond) ∈ lw_tb := tb_in (List.mem_of_getElem? (i := 97) (by decide +kernel)) (by decide +kernel)
theorem k_98 : (.fieldLink R_Disk 32 "TreeFiles$Disk" "earlyCommits" "I" : Cond) ∈ lw_tb := tb_in (List.mem_of_getElem? (i := 98) (by decide +kernel)) (by decide +kernel)
theorem k_122 : (.fieldLink R_Inodes 9 "TreeFiles$Inodes" "disk" "LTreeFiles$Disk;" : Cond) ∈ lw_tb := tb_in (List.mem_of_getElem? (i := 122) (by decide +kernel)) (by decide +kernel)
theorem k_132 : (.fieldLink R_Dirs 9 "TreeFiles$Directories" "disk" "LTreeFiles$Disk;" : Cond) ∈ lw_tb := tb_in (List.mem_of_getElem? (i := 132) (by decide +kernel)) (by decide +kernel)
theorem k_133 : (.fieldLink R_Dirs 15 "TreeFiles$Directories" "inodes" "LTreeFiles$Inodes;" : Cond) ∈ lw_tb := tb_in (List.mem_of_getElem? (i := 133) (by decide +kernel)) (by decide +kernel)
theorem k_134 : (.fieldLink R_Dirs 19 "TreeFiles$Directories" "parents" "[I" : Cond) ∈ lw_tb := tb_in (List.mem_of_getElem? (i := 134) (by decide +kernel)) (by decide +kernel)
theorem k_143 : (.methodLink R_Tree 44 y_Inodes_begin : Cond) ∈ lw_tb := tb_in (List.mem_of_getElem? (i := 143) (by decide +kernel)) (by decide +kernel)
theorem k_144 : (.instanceMethod y_Inodes_begin : Cond) ∈ lw_tb := tb_in (List.mem_of_getElem? (i := 144) (by decide +kernel)) (by decide +kernel)
theorem k_145 : (.selects R_Inodes y_Inodes_begin y_Inodes_begin : Cond) ∈ lw_tb := tb_in (List.mem_of_getElem? (i := 145) (by decide +kernel)) (by decide +kernel)
theorem k_146 : (.code y_Inodes_begin b_Inodes_begin 3 none : Cond) ∈ lw_tb := tb_in (List.mem_of_getElem? (i := 146) (by decide +kernel)) (by decide +kernel)
theorem k_147 : (.methodLink R_Inodes 15 y_Inodes_inodePlace : Cond) ∈ lw_tb := tb_in (List.mem_of_getElem? (i := 147) (by decide +kernel)) (by decide +kernel)
theorem k_148 : (.static y_Inodes_inodePlace : Cond) ∈ lw_tb := tb_in (List.mem_of_getElem? (i := 148) (by decide +kernel)) (by decide +kernel)
theorem k_149 : (.code y_Inodes_inodePlace b_Inodes_inodePlace 1 (some .int) : Cond) ∈ lw_tb := tb_in (List.mem_of_getElem? (i := 149) (by decide +kernel)) (by decide +kernel)
theorem k_150 : (.methodLink R_Inodes 34 y_Disk_setByte : Cond) ∈ lw_tb := tb_in (List.mem_of_getElem? (i := 150) (by decide +kernel)) (by decide +kernel)
theorem k_151 : (.instanceMethod y_Disk_setByte : Cond) ∈ lw_tb := tb_in (List.mem_of_getElem? (i := 151) (by decide +kernel)) (by decide +kernel)
theorem k_152 : (.selects R_Disk y_Disk_setByte y_Disk_setByte : Cond) ∈ lw_tb := tb_in (List.mem_of_getElem? (i := 152) (by decide +kernel)) (by decide +kernel)
theorem k_153 : (.code y_Disk_setByte b_Disk_setByte 6 none : Cond) ∈ lw_tb := tb_in (List.mem_of_getElem? (i := 153) (by decide +kernel)) (by decide +kernel)
theorem k_154 : (.constantLong R_Disk 50 (255) : Cond) ∈ lw_tb := tb_in (List.mem_of_getElem? (i := 154) (by decide +kernel)) (by decide +kernel)
theorem k_155 : (.constantLong R_Disk 52 (-1) : Cond) ∈ lw_tb := tb_in (List.mem_of_getElem? (i := 155) (by decide +kernel)) (by decide +kernel)
theorem k_156 : (.methodLink R_Tree 48 y_Disk_settle : Cond) ∈ lw_tb := tb_in (List.mem_of_getElem? (i := 156) (by decide +kernel)) (by decide +kernel)
theorem k_157 : (.instanceMethod y_Disk_settle : Cond) ∈ lw_tb := tb_in (List.mem_of_getElem? (i := 157) (by decide +kernel)) (by decide +kernel)
theorem k_158 : (.selects R_Disk y_Disk_settle y_Disk_settle : Cond) ∈ lw_tb := tb_in (List.mem_of_getElem? (i := 158) (by decide +kernel)) (by decide +kernel)
theorem k_159 : (.code y_Disk_settle b_Disk_settle 2 none : Cond) ∈ lw_tb := tb_in (List.mem_of_getElem? (i := 159) (by decide +kernel)) (by decide +kernel)
theorem k_160 : (.methodLink R_Disk 68 y_Disk_compare : Cond) ∈ lw_tb := tb_in (List.mem_of_getElem? (i := 160) (by decide +kernel)) (by decide +kernel)
theorem k_162 : (.instanceMethod y_Disk_compare : Cond) ∈ lw_tb := tb_in (List.mem_of_getElem? (i := 162) (by decide +kernel)) (by decide +kernel)
theorem k_163 : (.code y_Disk_compare b_Disk_compare 5 none : Cond) ∈ lw_tb := tb_in (List.mem_of_getElem? (i := 163) (by decide +kernel)) (by decide +kernel)
theorem k_164 : (.methodLink R_Disk 71 y_Disk_differingBlocks : Cond) ∈ lw_tb := tb_in (List.mem_of_getElem? (i := 164) (by decide +kernel)) (by decide +kernel)
theorem k_165 : (.instanceMethod y_Disk_differingBlocks : Cond) ∈ lw_tb := tb_in (List.mem_of_getElem? (i := 165) (by decide +kernel)) (by decide +kernel)
theorem k_166 : (.selects R_Disk y_Disk_differingBlocks y_Disk_differingBlocks : Cond) ∈ lw_tb := tb_in (List.mem_of_getElem? (i := 166) (by decide +kernel)) (by decide +kernel)
theorem k_167 : (.code y_Disk_differingBlocks b_Disk_differingBlocks 3 (some .int) : Cond) ∈ lw_tb := tb_in (List.mem_of_getElem? (i := 167) (by decide +kernel)) (by decide +kernel)
theorem k_168 : (.methodLink R_Disk 75 y_Disk_commitWhatWasBefore : Cond) ∈ lw_tb := tb_in (List.mem_of_getElem? (i := 168) (by decide +kernel)) (by decide +kernel)
theorem k_170 : (.instanceMethod y_Disk_commitWhatWasBefore : Cond) ∈ lw_tb := tb_in (List.mem_of_getElem? (i := 170) (by decide +kernel)) (by decide +kernel)
theorem k_171 : (.code y_Disk_commitWhatWasBefore b_Disk_commitWhatWasBefore 2 none : Cond) ∈ lw_tb := tb_in (List.mem_of_getElem? (i := 171) (by decide +kernel)) (by decide +kernel)
theorem k_172 : (.methodLink R_Disk 64 y_Disk_copyBlock : Cond) ∈ lw_tb := tb_in (List.mem_of_getElem? (i := 172) (by decide +kernel)) (by decide +kernel)
theorem k_173 : (.static y_Disk_copyBlock : Cond) ∈ lw_tb := tb_in (List.mem_of_getElem? (i := 173) (by decide +kernel)) (by decide +kernel)
theorem k_174 : (.code y_Disk_copyBlock b_Disk_copyBlock 3 none : Cond) ∈ lw_tb := tb_in (List.mem_of_getElem? (i := 174) (by decide +kernel)) (by decide +kernel)
theorem k_175 : (.methodLink R_Disk 61 y_Disk_isFree : Cond) ∈ lw_tb := tb_in (List.mem_of_getElem? (i := 175) (by decide +kernel)) (by decide +kernel)
theorem k_176 : (.instanceMethod y_Disk_isFree : Cond) ∈ lw_tb := tb_in (List.mem_of_getElem? (i := 176) (by decide +kernel)) (by decide +kernel)
theorem k_177 : (.selects R_Disk y_Disk_isFree y_Disk_isFree : Cond) ∈ lw_tb := tb_in (List.mem_of_getElem? (i := 177) (by decide +kernel)) (by decide +kernel)
theorem k_178 : (.code y_Disk_isFree b_Disk_isFree 2 (some .boolean) : Cond) ∈ lw_tb := tb_in (List.mem_of_getElem? (i := 178) (by decide +kernel)) (by decide +kernel)
theorem k_179 : (.methodLink R_Disk 39 y_Disk_hasBlock : Cond) ∈ lw_tb := tb_in (List.mem_of_getElem? (i := 179) (by decide +kernel)) (by decide +kernel)
theorem k_181 : (.instanceMethod y_Disk_hasBlock : Cond) ∈ lw_tb := tb_in (List.mem_of_getElem? (i := 181) (by decide +kernel)) (by decide +kernel)
theorem k_182 : (.code y_Disk_hasBlock b_Disk_hasBlock 2 (some .boolean) : Cond) ∈ lw_tb := tb_in (List.mem_of_getElem? (i := 182) (by decide +kernel)) (by decide +kernel)
theorem k_183 : (.methodLink R_Disk 78 y_Disk_forgetTouched : Cond) ∈ lw_tb := tb_in (List.mem_of_getElem? (i := 183) (by decide +kernel)) (by decide +kernel)
theorem k_185 : (.instanceMethod y_Disk_forgetTouched : Cond) ∈ lw_tb := tb_in (List.mem_of_getElem? (i := 185) (by decide +kernel)) (by decide +kernel)
theorem k_186 : (.code y_Disk_forgetTouched b_Disk_forgetTouched 2 none : Cond) ∈ lw_tb := tb_in (List.mem_of_getElem? (i := 186) (by decide +kernel)) (by decide +kernel)
theorem k_187 : (.methodLink R_Tree 51 y_Disk_commitAll : Cond) ∈ lw_tb := tb_in (List.mem_of_getElem? (i := 187) (by decide +kernel)) (by decide +kernel)
theorem k_188 : (.instanceMethod y_Disk_commitAll : Cond) ∈ lw_tb := tb_in (List.mem_of_getElem? (i := 188) (by decide +kernel)) (by decide +kernel)
theorem k_189 : (.selects R_Disk y_Disk_commitAll y_Disk_commitAll : Cond) ∈ lw_tb := tb_in (List.mem_of_getElem? (i := 189) (by decide +kernel)) (by decide +kernel)
theorem k_190 : (.code y_Disk_commitAll b_Disk_commitAll 1 none : Cond) ∈ lw_tb := tb_in (List.mem_of_getElem? (i := 190) (by decide +kernel)) (by decide +kernel)
theorem k_191 : (.methodLink R_Disk 81 y_Disk_makeAlike : Cond) ∈ lw_tb := tb_in (List.mem_of_getElem? (i := 191) (by decide +kernel)) (by decide +kernel)
theorem k_193 : (.instanceMethod y_Disk_makeAlike : Cond) ∈ lw_tb := tb_in (List.mem_of_getElem? (i := 193) (by decide +kernel)) (by decide +kernel)
theorem k_194 : (.code y_Disk_makeAlike b_Disk_makeAlike 4 none : Cond) ∈ lw_tb := tb_in (List.mem_of_getElem? (i := 194) (by decide +kernel)) (by decide +kernel)
theorem k_195 : (.fieldLink R_Tree 12 "TreeFiles" "disk" "LTreeFiles$Disk;" : Cond) ∈ lw_tb := tb_in (List.mem_of_getElem? (i := 195) (by decide +kernel)) (by decide +kernel)
theorem k_196 : (.fieldLink R_Tree 23 "TreeFiles" "inodes" "LTreeFiles$Inodes;" : Cond) ∈ lw_tb := tb_in (List.mem_of_getElem? (i := 196) (by decide +kernel)) (by decide +kernel)
theorem k_197 : (.fieldLink R_Tree 32 "TreeFiles" "directories" "LTreeFiles$Directories;" : Cond) ∈ lw_tb := tb_in (List.mem_of_getElem? (i := 197) (by decide +kernel)) (by decide +kernel)
theorem k_198 : (.fieldLink R_Tree 36 "TreeFiles" "tape" "[I" : Cond) ∈ lw_tb := tb_in (List.mem_of_getElem? (i := 198) (by decide +kernel)) (by decide +kernel)
theorem k_199 : (.fieldLink R_Tree 40 "TreeFiles" "tapeLength" "I" : Cond) ∈ lw_tb := tb_in (List.mem_of_getElem? (i := 199) (by decide +kernel)) (by decide +kernel)
theorem k_215 : (.methodLink R_Tree 141 y_Disk_differingBlocks : Cond) ∈ lw_tb := tb_in (List.mem_of_getElem? (i := 215) (by decide +kernel)) (by decide +kernel)
theorem k_220 : (.methodLink R_Tree 144 y_Disk_dropAll : Cond) ∈ lw_tb := tb_in (List.mem_of_getElem? (i := 220) (by decide +kernel)) (by decide +kernel)
theorem k_221 : (.instanceMethod y_Disk_dropAll : Cond) ∈ lw_tb := tb_in (List.mem_of_getElem? (i := 221) (by decide +kernel)) (by decide +kernel)
theorem k_222 : (.selects R_Disk y_Disk_dropAll y_Disk_dropAll : Cond) ∈ lw_tb := tb_in (List.mem_of_getElem? (i := 222) (by decide +kernel)) (by decide +kernel)
theorem k_223 : (.code y_Disk_dropAll b_Disk_dropAll 1 none : Cond) ∈ lw_tb := tb_in (List.mem_of_getElem? (i := 223) (by decide +kernel)) (by decide +kernel)
theorem k_327 : (.methodLink R_Tree 66 y_Tree_checkInode : Cond) ∈ lw_tb := tb_in (List.mem_of_getElem? (i := 327) (by decide +kernel)) (by decide +kernel)
theorem k_328 : (.static y_Tree_checkInode : Cond) ∈ lw_tb := tb_in (List.mem_of_getElem? (i := 328) (by decide +kernel)) (by decide +kernel)
theorem k_329 : (.code y_Tree_checkInode b_Tree_checkInode 1 none : Cond) ∈ lw_tb := tb_in (List.mem_of_getElem? (i := 329) (by decide +kernel)) (by decide +kernel)
theorem k_331 : (.methodLink R_Tree 69 y_Tree_checkName : Cond) ∈ lw_tb := tb_in (List.mem_of_getElem? (i := 331) (by decide +kernel)) (by decide +kernel)
theorem k_332 : (.static y_Tree_checkName : Cond) ∈ lw_tb := tb_in (List.mem_of_getElem? (i := 332) (by decide +kernel)) (by decide +kernel)
theorem k_333 : (.code y_Tree_checkName b_Tree_checkName 1 none : Cond) ∈ lw_tb := tb_in (List.mem_of_getElem? (i := 333) (by decide +kernel)) (by decide +kernel)
theorem k_334 : (.constant R_Tree 190 (65535) : Cond) ∈ lw_tb := tb_in (List.mem_of_getElem? (i := 334) (by decide +kernel)) (by decide +kernel)
theorem k_336 : (.methodLink R_Tree 72 y_Tree_kindFault : Cond) ∈ lw_tb := tb_in (List.mem_of_getElem? (i := 336) (by decide +kernel)) (by decide +kernel)
theorem k_338 : (.instanceMethod y_Tree_kindFault : Cond) ∈ lw_tb := tb_in (List.mem_of_getElem? (i := 338) (by decide +kernel)) (by decide +kernel)
theorem k_339 : (.code y_Tree_kindFault b_Tree_kindFault 4 (some .int) : Cond) ∈ lw_tb := tb_in (List.mem_of_getElem? (i := 339) (by decide +kernel)) (by decide +kernel)
theorem k_340 : (.methodLink R_Tree 152 y_Inodes_kind : Cond) ∈ lw_tb := tb_in (List.mem_of_getElem? (i := 340) (by decide +kernel)) (by decide +kernel)
theorem k_341 : (.instanceMethod y_Inodes_kind : Cond) ∈ lw_tb := tb_in (List.mem_of_getElem? (i := 341) (by decide +kernel)) (by decide +kernel)
theorem k_342 : (.selects R_Inodes y_Inodes_kind y_Inodes_kind : Cond) ∈ lw_tb := tb_in (List.mem_of_getElem? (i := 342) (by decide +kernel)) (by decide +kernel)
theorem k_343 : (.code y_Inodes_kind b_Inodes_kind 2 (some .int) : Cond) ∈ lw_tb := tb_in (List.mem_of_getElem? (i := 343) (by decide +kernel)) (by decide +kernel)
theorem k_344 : (.methodLink R_Inodes 19 y_Disk_byteAt : Cond) ∈ lw_tb := tb_in (List.mem_of_getElem? (i := 344) (by decide +kernel)) (by decide +kernel)
theorem k_345 : (.instanceMethod y_Disk_byteAt : Cond) ∈ lw_tb := tb_in (List.mem_of_getElem? (i := 345) (by decide +kernel)) (by decide +kernel)
theorem k_346 : (.selects R_Disk y_Disk_byteAt y_Disk_byteAt : Cond) ∈ lw_tb := tb_in (List.mem_of_getElem? (i := 346) (by decide +kernel)) (by decide +kernel)
theorem k_347 : (.code y_Disk_byteAt b_Disk_byteAt 2 (some .int) : Cond) ∈ lw_tb := tb_in (List.mem_of_getElem? (i := 347) (by decide +kernel)) (by decide +kernel)
theorem k_348 : (.methodLink R_Tree 76 y_Dirs_entryNamed : Cond) ∈ lw_tb := tb_in (List.mem_of_getElem? (i := 348) (by decide +kernel)) (by decide +kernel)
theorem k_349 : (.instanceMethod y_Dirs_entryNamed : Cond) ∈ lw_tb := tb_in (List.mem_of_getElem? (i := 349) (by decide +kernel)) (by decide +kernel)
theorem k_350 : (.selects R_Dirs y_Dirs_entryNamed y_Dirs_entryNamed : Cond) ∈ lw_tb := tb_in (List.mem_of_getElem? (i := 350) (by decide +kernel)) (by decide +kernel)
theorem k_351 : (.code y_Dirs_entryNamed b_Dirs_entryNamed 6 (some .int) : Cond) ∈ lw_tb := tb_in (List.mem_of_getElem? (i := 351) (by decide +kernel)) (by decide +kernel)
theorem k_352 : (.methodLink R_Dirs 23 y_Inodes_size : Cond) ∈ lw_tb := tb_in (List.mem_of_getElem? (i := 352) (by decide +kernel)) (by decide +kernel)
theorem k_353 : (.instanceMethod y_Inodes_size : Cond) ∈ lw_tb := tb_in (List.mem_of_getElem? (i := 353) (by decide +kernel)) (by decide +kernel)
theorem k_354 : (.selects R_Inodes y_Inodes_size y_Inodes_size : Cond) ∈ lw_tb := tb_in (List.mem_of_getElem? (i := 354) (by decide +kernel)) (by decide +kernel)
theorem k_355 : (.code y_Inodes_size b_Inodes_size 2 (some .int) : Cond) ∈ lw_tb := tb_in (List.mem_of_getElem? (i := 355) (by decide +kernel)) (by decide +kernel)
theorem k_356 : (.methodLink R_Inodes 24 y_Disk_pairAt : Cond) ∈ lw_tb := tb_in (List.mem_of_getElem? (i := 356) (by decide +kernel)) (by decide +kernel)
theorem k_357 : (.instanceMethod y_Disk_pairAt : Cond) ∈ lw_tb := tb_in (List.mem_of_getElem? (i := 357) (by decide +kernel)) (by decide +kernel)
theorem k_358 : (.selects R_Disk y_Disk_pairAt y_Disk_pairAt : Cond) ∈ lw_tb := tb_in (List.mem_of_getElem? (i := 358) (by decide +kernel)) (by decide +kernel)
theorem k_359 : (.code y_Disk_pairAt b_Disk_pairAt 2 (some .int) : Cond) ∈ lw_tb := tb_in (List.mem_of_getElem? (i := 359) (by decide +kernel)) (by decide +kernel)
theorem k_360 : (.methodLink R_Disk 43 y_Disk_byteAt : Cond) ∈ lw_tb := tb_in (List.mem_of_getElem? (i := 360) (by decide +kernel)) (by decide +kernel)
theorem k_361 : (.methodLink R_Dirs 29 y_Inodes_placeOf : Cond) ∈ lw_tb := tb_in (List.mem_of_getElem? (i := 361) (by decide +kernel)) (by decide +kernel)
theorem k_362 : (.instanceMethod y_Inodes_placeOf : Cond) ∈ lw_tb := tb_in (List.mem_of_getElem? (i := 362) (by decide +kernel)) (by decide +kernel)
theorem k_363 : (.selects R_Inodes y_Inodes_placeOf y_Inodes_placeOf : Cond) ∈ lw_tb := tb_in (List.mem_of_getElem? (i := 363) (by decide +kernel)) (by decide +kernel)
theorem k_364 : (.code y_Inodes_placeOf b_Inodes_placeOf 7 (some .int) : Cond) ∈ lw_tb := tb_in (List.mem_of_getElem? (i := 364) (by decide +kernel)) (by decide +kernel)
theorem k_365 : (.methodLink R_Inodes 67 y_Inodes_extents : Cond) ∈ lw_tb := tb_in (List.mem_of_getElem? (i := 365) (by decide +kernel)) (by decide +kernel)
theorem k_366 : (.instanceMethod y_Inodes_extents : Cond) ∈ lw_tb := tb_in (List.mem_of_getElem? (i := 366) (by decide +kernel)) (by decide +kernel)
theorem k_367 : (.selects R_Inodes y_Inodes_extents y_Inodes_extents : Cond) ∈ lw_tb := tb_in (List.mem_of_getElem? (i := 367) (by decide +kernel)) (by decide +kernel)
theorem k_368 : (.code y_Inodes_extents b_Inodes_extents 2 (some .int) : Cond) ∈ lw_tb := tb_in (List.mem_of_getElem? (i := 368) (by decide +kernel)) (by decide +kernel)
theorem k_369 : (.methodLink R_Inodes 70 y_Inodes_extentLength : Cond) ∈ lw_tb := tb_in (List.mem_of_getElem? (i := 369) (by decide +kernel)) (by decide +kernel)
theorem k_370 : (.instanceMethod y_Inodes_extentLength : Cond) ∈ lw_tb := tb_in (List.mem_of_getElem? (i := 370) (by decide +kernel)) (by decide +kernel)
theorem k_371 : (.selects R_Inodes y_Inodes_extentLength y_Inodes_extentLength : Cond) ∈ lw_tb := tb_in (List.mem_of_getElem? (i := 371) (by decide +kernel)) (by decide +kernel)
theorem k_372 : (.code y_Inodes_extentLength b_Inodes_extentLength 3 (some .int) : Cond) ∈ lw_tb := tb_in (List.mem_of_getElem? (i := 372) (by decide +kernel)) (by decide +kernel)
theorem k_373 : (.methodLink R_Inodes 27 y_Inodes_extentPlace : Cond) ∈ lw_tb := tb_in (List.mem_of_getElem? (i := 373) (by decide +kernel)) (by decide +kernel)
theorem k_374 : (.static y_Inodes_extentPlace : Cond) ∈ lw_tb := tb_in (List.mem_of_getElem? (i := 374) (by decide +kernel)) (by decide +kernel)
theorem k_375 : (.code y_Inodes_extentPlace b_Inodes_extentPlace 2 (some .int) : Cond) ∈ lw_tb := tb_in (List.mem_of_getElem? (i := 375) (by decide +kernel)) (by decide +kernel)
theorem k_376 : (.methodLink R_Inodes 73 y_Inodes_extentFirst : Cond) ∈ lw_tb := tb_in (List.mem_of_getElem? (i := 376) (by decide +kernel)) (by decide +kernel)
theorem k_377 : (.instanceMethod y_Inodes_extentFirst : Cond) ∈ lw_tb := tb_in (List.mem_of_getElem? (i := 377) (by decide +kernel)) (by decide +kernel)
theorem k_378 : (.selects R_Inodes y_Inodes_extentFirst y_Inodes_extentFirst : Cond) ∈ lw_tb := tb_in (List.mem_of_getElem? (i := 378) (by decide +kernel)) (by decide +kernel)
theorem k_379 : (.code y_Inodes_extentFirst b_Inodes_extentFirst 3 (some .int) : Cond) ∈ lw_tb := tb_in (List.mem_of_getElem? (i := 379) (by decide +kernel)) (by decide +kernel)
theorem k_380 : (.methodLink R_Dirs 33 y_Disk_pairAt : Cond) ∈ lw_tb := tb_in (List.mem_of_getElem? (i := 380) (by decide +kernel)) (by decide +kernel)
theorem k_381 : (.methodLink R_Tree 79 y_Inodes_leastFree : Cond) ∈ lw_tb := tb_in (List.mem_of_getElem? (i := 381) (by decide +kernel)) (by decide +kernel)
theorem k_382 : (.instanceMethod y_Inodes_leastFree : Cond) ∈ lw_tb := tb_in (List.mem_of_getElem? (i := 382) (by decide +kernel)) (by decide +kernel)
theorem k_383 : (.selects R_Inodes y_Inodes_leastFree y_Inodes_leastFree : Cond) ∈ lw_tb := tb_in (List.mem_of_getElem? (i := 383) (by decide +kernel)) (by decide +kernel)
theorem k_384 : (.code y_Inodes_leastFree b_Inodes_leastFree 2 (some .int) : Cond) ∈ lw_tb := tb_in (List.mem_of_getElem? (i := 384) (by decide +kernel)) (by decide +kernel)
theorem k_385 : (.methodLink R_Inodes 31 y_Inodes_kind : Cond) ∈ lw_tb := tb_in (List.mem_of_getElem? (i := 385) (by decide +kernel)) (by decide +kernel)
theorem k_386 : (.methodLink R_Tree 83 y_Dirs_addEntry : Cond) ∈ lw_tb := tb_in (List.mem_of_getElem? (i := 386) (by decide +kernel)) (by decide +kernel)
theorem k_387 : (.instanceMethod y_Dirs_addEntry : Cond) ∈ lw_tb := tb_in (List.mem_of_getElem? (i := 387) (by decide +kernel)) (by decide +kernel)
theorem k_388 : (.selects R_Dirs y_Dirs_addEntry y_Dirs_addEntry : Cond) ∈ lw_tb := tb_in (List.mem_of_getElem? (i := 388) (by decide +kernel)) (by decide +kernel)
theorem k_389 : (.code y_Dirs_addEntry b_Dirs_addEntry 6 (some .boolean) : Cond) ∈ lw_tb := tb_in (List.mem_of_getElem? (i := 389) (by decide +kernel)) (by decide +kernel)
theorem k_390 : (.methodLink R_Dirs 41 y_Dirs_entryNamed : Cond) ∈ lw_tb := tb_in (List.mem_of_getElem? (i := 390) (by decide +kernel)) (by decide +kernel)
theorem k_391 : (.methodLink R_Dirs 44 y_Inodes_resize : Cond) ∈ lw_tb := tb_in (List.mem_of_getElem? (i := 391) (by decide +kernel)) (by decide +kernel)
theorem k_392 : (.instanceMethod y_Inodes_resize : Cond) ∈ lw_tb := tb_in (List.mem_of_getElem? (i := 392) (by decide +kernel)) (by decide +kernel)
theorem k_393 : (.selects R_Inodes y_Inodes_resize y_Inodes_resize : Cond) ∈ lw_tb := tb_in (List.mem_of_getElem? (i := 393) (by decide +kernel)) (by decide +kernel)
theorem k_394 : (.code y_Inodes_resize b_Inodes_resize 8 (some .boolean) : Cond) ∈ lw_tb := tb_in (List.mem_of_getElem? (i := 394) (by decide +kernel)) (by decide +kernel)
theorem k_395 : (.methodLink R_Inodes 42 y_Inodes_size : Cond) ∈ lw_tb := tb_in (List.mem_of_getElem? (i := 395) (by decide +kernel)) (by decide +kernel)
theorem k_396 : (.methodLink R_Inodes 45 y_Inodes_blocksFor : Cond) ∈ lw_tb := tb_in (List.mem_of_getElem? (i := 396) (by decide +kernel)) (by decide +kernel)
theorem k_397 : (.static y_Inodes_blocksFor : Cond) ∈ lw_tb := tb_in (List.mem_of_getElem? (i := 397) (by decide +kernel)) (by decide +kernel)
theorem k_398 : (.code y_Inodes_blocksFor b_Inodes_blocksFor 1 (some .int) : Cond) ∈ lw_tb := tb_in (List.mem_of_getElem? (i := 398) (by decide +kernel)) (by decide +kernel)
theorem k_399 : (.methodLink R_Inodes 48 y_Inodes_takeBlock : Cond) ∈ lw_tb := tb_in (List.mem_of_getElem? (i := 399) (by decide +kernel)) (by decide +kernel)
theorem k_401 : (.instanceMethod y_Inodes_takeBlock : Cond) ∈ lw_tb := tb_in (List.mem_of_getElem? (i := 401) (by decide +kernel)) (by decide +kernel)
theorem k_402 : (.code y_Inodes_takeBlock b_Inodes_takeBlock 5 (some .boolean) : Cond) ∈ lw_tb := tb_in (List.mem_of_getElem? (i := 402) (by decide +kernel)) (by decide +kernel)
theorem k_403 : (.methodLink R_Inodes 76 y_Disk_isFree : Cond) ∈ lw_tb := tb_in (List.mem_of_getElem? (i := 403) (by decide +kernel)) (by decide +kernel)
theorem k_404 : (.methodLink R_Inodes 79 y_Disk_takeBlock : Cond) ∈ lw_tb := tb_in (List.mem_of_getElem? (i := 404) (by decide +kernel)) (by decide +kernel)
theorem k_405 : (.instanceMethod y_Disk_takeBlock : Cond) ∈ lw_tb := tb_in (List.mem_of_getElem? (i := 405) (by decide +kernel)) (by decide +kernel)
theorem k_406 : (.selects R_Disk y_Disk_takeBlock y_Disk_takeBlock : Cond) ∈ lw_tb := tb_in (List.mem_of_getElem? (i := 406) (by decide +kernel)) (by decide +kernel)
theorem k_407 : (.code y_Disk_takeBlock b_Disk_takeBlock 3 none : Cond) ∈ lw_tb := tb_in (List.mem_of_getElem? (i := 407) (by decide +kernel)) (by decide +kernel)
theorem k_408 : (.methodLink R_Inodes 81 y_Disk_leastFree : Cond) ∈ lw_tb := tb_in (List.mem_of_getElem? (i := 408) (by decide +kernel)) (by decide +kernel)
theorem k_409 : (.instanceMethod y_Disk_leastFree : Cond) ∈ lw_tb := tb_in (List.mem_of_getElem? (i := 409) (by decide +kernel)) (by decide +kernel)
theorem k_410 : (.selects R_Disk y_Disk_leastFree y_Disk_leastFree : Cond) ∈ lw_tb := tb_in (List.mem_of_getElem? (i := 410) (by decide +kernel)) (by decide +kernel)
theorem k_411 : (.code y_Disk_leastFree b_Disk_leastFree 2 (some .int) : Cond) ∈ lw_tb := tb_in (List.mem_of_getElem? (i := 411) (by decide +kernel)) (by decide +kernel)
theorem k_412 : (.methodLink R_Inodes 64 y_Disk_setPair : Cond) ∈ lw_tb := tb_in (List.mem_of_getElem? (i := 412) (by decide +kernel)) (by decide +kernel)
theorem k_413 : (.instanceMethod y_Disk_setPair : Cond) ∈ lw_tb := tb_in (List.mem_of_getElem? (i := 413) (by decide +kernel)) (by decide +kernel)
theorem k_414 : (.selects R_Disk y_Disk_setPair y_Disk_setPair : Cond) ∈ lw_tb := tb_in (List.mem_of_getElem? (i := 414) (by decide +kernel)) (by decide +kernel)
theorem k_415 : (.code y_Disk_setPair b_Disk_setPair 3 none : Cond) ∈ lw_tb := tb_in (List.mem_of_getElem? (i := 415) (by decide +kernel)) (by decide +kernel)
theorem k_416 : (.methodLink R_Disk 54 y_Disk_setByte : Cond) ∈ lw_tb := tb_in (List.mem_of_getElem? (i := 416) (by decide +kernel)) (by decide +kernel)
theorem k_417 : (.methodLink R_Inodes 52 y_Inodes_giveBlockBack : Cond) ∈ lw_tb := tb_in (List.mem_of_getElem? (i := 417) (by decide +kernel)) (by decide +kernel)
theorem k_419 : (.instanceMethod y_Inodes_giveBlockBack : Cond) ∈ lw_tb := tb_in (List.mem_of_getElem? (i := 419) (by decide +kernel)) (by decide +kernel)
theorem k_420 : (.code y_Inodes_giveBlockBack b_Inodes_giveBlockBack 4 none : Cond) ∈ lw_tb := tb_in (List.mem_of_getElem? (i := 420) (by decide +kernel)) (by decide +kernel)
theorem k_421 : (.methodLink R_Inodes 85 y_Disk_giveBlockBack : Cond) ∈ lw_tb := tb_in (List.mem_of_getElem? (i := 421) (by decide +kernel)) (by decide +kernel)
theorem k_422 : (.instanceMethod y_Disk_giveBlockBack : Cond) ∈ lw_tb := tb_in (List.mem_of_getElem? (i := 422) (by decide +kernel)) (by decide +kernel)
theorem k_423 : (.selects R_Disk y_Disk_giveBlockBack y_Disk_giveBlockBack : Cond) ∈ lw_tb := tb_in (List.mem_of_getElem? (i := 423) (by decide +kernel)) (by decide +kernel)
theorem k_424 : (.code y_Disk_giveBlockBack b_Disk_giveBlockBack 2 none : Cond) ∈ lw_tb := tb_in (List.mem_of_getElem? (i := 424) (by decide +kernel)) (by decide +kernel)
theorem k_425 : (.methodLink R_Inodes 56 Lib.Math.min.name : Cond) ∈ lw_tb := tb_in (List.mem_of_getElem? (i := 425) (by decide +kernel)) (by decide +kernel)
theorem k_426 : (.static Lib.Math.min.name : Cond) ∈ lw_tb := tb_in (List.mem_of_getElem? (i := 426) (by decide +kernel)) (by decide +kernel)
theorem k_427 : (.code Lib.Math.min.name Lib.Math.min.code 2 (some .int) : Cond) ∈ lw_tb := tb_in (List.mem_of_getElem? (i := 427) (by decide +kernel)) (by decide +kernel)
theorem k_428 : (.methodLink R_Inodes 61 y_Inodes_placeOf : Cond) ∈ lw_tb := tb_in (List.mem_of_getElem? (i := 428) (by decide +kernel)) (by decide +kernel)
theorem k_429 : (.methodLink R_Dirs 48 y_Dirs_setEntry : Cond) ∈ lw_tb := tb_in (List.mem_of_getElem? (i := 429) (by decide +kernel)) (by decide +kernel)
theorem k_430 : (.instanceMethod y_Dirs_setEntry : Cond) ∈ lw_tb := tb_in (List.mem_of_getElem? (i := 430) (by decide +kernel)) (by decide +kernel)
theorem k_431 : (.selects R_Dirs y_Dirs_setEntry y_Dirs_setEntry : Cond) ∈ lw_tb := tb_in (List.mem_of_getElem? (i := 431) (by decide +kernel)) (by decide +kernel)
theorem k_432 : (.code y_Dirs_setEntry b_Dirs_setEntry 4 none : Cond) ∈ lw_tb := tb_in (List.mem_of_getElem? (i := 432) (by decide +kernel)) (by decide +kernel)
theorem k_433 : (.methodLink R_Dirs 52 y_Disk_setPair : Cond) ∈ lw_tb := tb_in (List.mem_of_getElem? (i := 433) (by decide +kernel)) (by decide +kernel)
theorem k_434 : (.methodLink R_Dirs 56 y_Disk_setByte : Cond) ∈ lw_tb := tb_in (List.mem_of_getElem? (i := 434) (by decide +kernel)) (by decide +kernel)
theorem k_435 : (.methodLink R_Tree 87 y_Disk_undo : Cond) ∈ lw_tb := tb_in (List.mem_of_getElem? (i := 435) (by decide +kernel)) (by decide +kernel)
theorem k_436 : (.instanceMethod y_Disk_undo : Cond) ∈ lw_tb := tb_in (List.mem_of_getElem? (i := 436) (by decide +kernel)) (by decide +kernel)
theorem k_437 : (.selects R_Disk y_Disk_undo y_Disk_undo : Cond) ∈ lw_tb := tb_in (List.mem_of_getElem? (i := 437) (by decide +kernel)) (by decide +kernel)
theorem k_438 : (.code y_Disk_undo b_Disk_undo 2 none : Cond) ∈ lw_tb := tb_in (List.mem_of_getElem? (i := 438) (by decide +kernel)) (by decide +kernel)
theorem k_446 : (.methodLink R_Tree 90 y_Tree_entryOrFault : Cond) ∈ lw_tb := tb_in (List.mem_of_getElem? (i := 446) (by decide +kernel)) (by decide +kernel)
theorem k_448 : (.instanceMethod y_Tree_entryOrFault : Cond) ∈ lw_tb := tb_in (List.mem_of_getElem? (i := 448) (by decide +kernel)) (by decide +kernel)
theorem k_449 : (.code y_Tree_entryOrFault b_Tree_entryOrFault 5 (some .int) : Cond) ∈ lw_tb := tb_in (List.mem_of_getElem? (i := 449) (by decide +kernel)) (by decide +kernel)
theorem k_450 : (.methodLink R_Tree 93 y_Dirs_inodeOf : Cond) ∈ lw_tb := tb_in (List.mem_of_getElem? (i := 450) (by decide +kernel)) (by decide +kernel)
theorem k_451 : (.instanceMethod y_Dirs_inodeOf : Cond) ∈ lw_tb := tb_in (List.mem_of_getElem? (i := 451) (by decide +kernel)) (by decide +kernel)
theorem k_452 : (.selects R_Dirs y_Dirs_inodeOf y_Dirs_inodeOf : Cond) ∈ lw_tb := tb_in (List.mem_of_getElem? (i := 452) (by decide +kernel)) (by decide +kernel)
theorem k_453 : (.code y_Dirs_inodeOf b_Dirs_inodeOf 2 (some .int) : Cond) ∈ lw_tb := tb_in (List.mem_of_getElem? (i := 453) (by decide +kernel)) (by decide +kernel)
theorem k_454 : (.methodLink R_Dirs 38 y_Disk_byteAt : Cond) ∈ lw_tb := tb_in (List.mem_of_getElem? (i := 454) (by decide +kernel)) (by decide +kernel)
theorem k_462 : (.methodLink R_Tree 97 y_Inodes_size : Cond) ∈ lw_tb := tb_in (List.mem_of_getElem? (i := 462) (by decide +kernel)) (by decide +kernel)
theorem k_463 : (.methodLink R_Tree 100 Lib.Math.max.name : Cond) ∈ lw_tb := tb_in (List.mem_of_getElem? (i := 463) (by decide +kernel)) (by decide +kernel)
theorem k_464 : (.static Lib.Math.max.name : Cond) ∈ lw_tb := tb_in (List.mem_of_getElem? (i := 464) (by decide +kernel)) (by decide +kernel)
theorem k_465 : (.code Lib.Math.max.name Lib.Math.max.code 2 (some .int) : Cond) ∈ lw_tb := tb_in (List.mem_of_getElem? (i := 465) (by decide +kernel)) (by decide +kernel)
theorem k_466 : (.methodLink R_Tree 105 y_Inodes_resize : Cond) ∈ lw_tb := tb_in (List.mem_of_getElem? (i := 466) (by decide +kernel)) (by decide +kernel)
theorem k_467 : (.methodLink R_Tree 109 y_Inodes_placeOf : Cond) ∈ lw_tb := tb_in (List.mem_of_getElem? (i := 467) (by decide +kernel)) (by decide +kernel)
theorem k_468 : (.methodLink R_Tree 112 y_Disk_setByte : Cond) ∈ lw_tb := tb_in (List.mem_of_getElem? (i := 468) (by decide +kernel)) (by decide +kernel)
theorem k_500 : (.methodLink R_Tree 120 y_Disk_byteAt : Cond) ∈ lw_tb := tb_in (List.mem_of_getElem? (i := 500) (by decide +kernel)) (by decide +kernel)
theorem k_508 : (.methodLink R_Tree 123 y_Tree_moveFault : Cond) ∈ lw_tb := tb_in (List.mem_of_getElem? (i := 508) (by decide +kernel)) (by decide +kernel)
theorem k_510 : (.instanceMethod y_Tree_moveFault : Cond) ∈ lw_tb := tb_in (List.mem_of_getElem? (i := 510) (by decide +kernel)) (by decide +kernel)
theorem k_511 : (.code y_Tree_moveFault b_Tree_moveFault 6 (some .int) : Cond) ∈ lw_tb := tb_in (List.mem_of_getElem? (i := 511) (by decide +kernel)) (by decide +kernel)
theorem k_512 : (.methodLink R_Tree 137 y_Tree_hasEntries : Cond) ∈ lw_tb := tb_in (List.mem_of_getElem? (i := 512) (by decide +kernel)) (by decide +kernel)
theorem k_514 : (.instanceMethod y_Tree_hasEntries : Cond) ∈ lw_tb := tb_in (List.mem_of_getElem? (i := 514) (by decide +kernel)) (by decide +kernel)
theorem k_515 : (.code y_Tree_hasEntries b_Tree_hasEntries 2 (some .boolean) : Cond) ∈ lw_tb := tb_in (List.mem_of_getElem? (i := 515) (by decide +kernel)) (by decide +kernel)
theorem k_516 : (.methodLink R_Tree 196 y_Dirs_isEmpty : Cond) ∈ lw_tb := tb_in (List.mem_of_getElem? (i := 516) (by decide +kernel)) (by decide +kernel)
theorem k_517 : (.instanceMethod y_Dirs_isEmpty : Cond) ∈ lw_tb := tb_in (List.mem_of_getElem? (i := 517) (by decide +kernel)) (by decide +kernel)
theorem k_518 : (.selects R_Dirs y_Dirs_isEmpty y_Dirs_isEmpty : Cond) ∈ lw_tb := tb_in (List.mem_of_getElem? (i := 518) (by decide +kernel)) (by decide +kernel)
theorem k_519 : (.code y_Dirs_isEmpty b_Dirs_isEmpty 4 (some .boolean) : Cond) ∈ lw_tb := tb_in (List.mem_of_getElem? (i := 519) (by decide +kernel)) (by decide +kernel)
theorem k_520 : (.methodLink R_Tree 193 y_Dirs_isWithin : Cond) ∈ lw_tb := tb_in (List.mem_of_getElem? (i := 520) (by decide +kernel)) (by decide +kernel)
theorem k_521 : (.instanceMethod y_Dirs_isWithin : Cond) ∈ lw_tb := tb_in (List.mem_of_getElem? (i := 521) (by decide +kernel)) (by decide +kernel)
theorem k_522 : (.selects R_Dirs y_Dirs_isWithin y_Dirs_isWithin : Cond) ∈ lw_tb := tb_in (List.mem_of_getElem? (i := 522) (by decide +kernel)) (by decide +kernel)
theorem k_523 : (.code y_Dirs_isWithin b_Dirs_isWithin 5 (some .boolean) : Cond) ∈ lw_tb := tb_in (List.mem_of_getElem? (i := 523) (by decide +kernel)) (by decide +kernel)
theorem k_524 : (.methodLink R_Dirs 59 y_Dirs_fillParents : Cond) ∈ lw_tb := tb_in (List.mem_of_getElem? (i := 524) (by decide +kernel)) (by decide +kernel)
theorem k_526 : (.instanceMethod y_Dirs_fillParents : Cond) ∈ lw_tb := tb_in (List.mem_of_getElem? (i := 526) (by decide +kernel)) (by decide +kernel)
theorem k_527 : (.code y_Dirs_fillParents b_Dirs_fillParents 5 none : Cond) ∈ lw_tb := tb_in (List.mem_of_getElem? (i := 527) (by decide +kernel)) (by decide +kernel)
theorem k_528 : (.methodLink R_Dirs 62 y_Inodes_kind : Cond) ∈ lw_tb := tb_in (List.mem_of_getElem? (i := 528) (by decide +kernel)) (by decide +kernel)
theorem k_529 : (.methodLink R_Dirs 65 y_Dirs_inodeOf : Cond) ∈ lw_tb := tb_in (List.mem_of_getElem? (i := 529) (by decide +kernel)) (by decide +kernel)
theorem k_530 : (.methodLink R_Tree 127 y_Dirs_clearEntry : Cond) ∈ lw_tb := tb_in (List.mem_of_getElem? (i := 530) (by decide +kernel)) (by decide +kernel)
theorem k_531 : (.instanceMethod y_Dirs_clearEntry : Cond) ∈ lw_tb := tb_in (List.mem_of_getElem? (i := 531) (by decide +kernel)) (by decide +kernel)
theorem k_532 : (.selects R_Dirs y_Dirs_clearEntry y_Dirs_clearEntry : Cond) ∈ lw_tb := tb_in (List.mem_of_getElem? (i := 532) (by decide +kernel)) (by decide +kernel)
theorem k_533 : (.code y_Dirs_clearEntry b_Dirs_clearEntry 2 none : Cond) ∈ lw_tb := tb_in (List.mem_of_getElem? (i := 533) (by decide +kernel)) (by decide +kernel)
theorem k_534 : (.methodLink R_Tree 130 y_Inodes_release : Cond) ∈ lw_tb := tb_in (List.mem_of_getElem? (i := 534) (by decide +kernel)) (by decide +kernel)
theorem k_535 : (.instanceMethod y_Inodes_release : Cond) ∈ lw_tb := tb_in (List.mem_of_getElem? (i := 535) (by decide +kernel)) (by decide +kernel)
theorem k_536 : (.selects R_Inodes y_Inodes_release y_Inodes_release : Cond) ∈ lw_tb := tb_in (List.mem_of_getElem? (i := 536) (by decide +kernel)) (by decide +kernel)
theorem k_537 : (.code y_Inodes_release b_Inodes_release 2 none : Cond) ∈ lw_tb := tb_in (List.mem_of_getElem? (i := 537) (by decide +kernel)) (by decide +kernel)
theorem k_538 : (.methodLink R_Inodes 38 y_Inodes_resize : Cond) ∈ lw_tb := tb_in (List.mem_of_getElem? (i := 538) (by decide +kernel)) (by decide +kernel)
theorem k_539 : (.methodLink R_Tree 133 y_Dirs_setEntry : Cond) ∈ lw_tb := tb_in (List.mem_of_getElem? (i := 539) (by decide +kernel)) (by decide +kernel)
theorem k_554 : (.methodLink R_Tree 147 y_Inodes_extents : Cond) ∈ lw_tb := tb_in (List.mem_of_getElem? (i := 554) (by decide +kernel)) (by decide +kernel)
theorem k_556 : (.methodLink R_Tree 155 y_Inodes_extentFirst : Cond) ∈ lw_tb := tb_in (List.mem_of_getElem? (i := 556) (by decide +kernel)) (by decide +kernel)
theorem k_557 : (.methodLink R_Tree 158 y_Inodes_extentLength : Cond) ∈ lw_tb := tb_in (List.mem_of_getElem? (i := 557) (by decide +kernel)) (by decide +kernel)
theorem k_565 : (.methodLink R_Tree 161 y_Disk_hasByte : Cond) ∈ lw_tb := tb_in (List.mem_of_getElem? (i := 565) (by decide +kernel)) (by decide +kernel)
theorem k_566 : (.instanceMethod y_Disk_hasByte : Cond) ∈ lw_tb := tb_in (List.mem_of_getElem? (i := 566) (by decide +kernel)) (by decide +kernel)
theorem k_567 : (.selects R_Disk y_Disk_hasByte y_Disk_hasByte : Cond) ∈ lw_tb := tb_in (List.mem_of_getElem? (i := 567) (by decide +kernel)) (by decide +kernel)
theorem k_568 : (.code y_Disk_hasByte b_Disk_hasByte 3 (some .boolean) : Cond) ∈ lw_tb := tb_in (List.mem_of_getElem? (i := 568) (by decide +kernel)) (by decide +kernel)
theorem k_570 : (.methodLink R_Tree 166 y_Disk_committedByteAt : Cond) ∈ lw_tb := tb_in (List.mem_of_getElem? (i := 570) (by decide +kernel)) (by decide +kernel)
theorem k_571 : (.instanceMethod y_Disk_committedByteAt : Cond) ∈ lw_tb := tb_in (List.mem_of_getElem? (i := 571) (by decide +kernel)) (by decide +kernel)
theorem k_572 : (.selects R_Disk y_Disk_committedByteAt y_Disk_committedByteAt : Cond) ∈ lw_tb := tb_in (List.mem_of_getElem? (i := 572) (by decide +kernel)) (by decide +kernel)
theorem k_573 : (.code y_Disk_committedByteAt b_Disk_committedByteAt 2 (some .int) : Cond) ∈ lw_tb := tb_in (List.mem_of_getElem? (i := 573) (by decide +kernel)) (by decide +kernel)
theorem k_581 : (.methodLink R_Tree 169 y_Disk_differingBlock : Cond) ∈ lw_tb := tb_in (List.mem_of_getElem? (i := 581) (by decide +kernel)) (by decide +kernel)
theorem k_582 : (.instanceMethod y_Disk_differingBlock : Cond) ∈ lw_tb := tb_in (List.mem_of_getElem? (i := 582) (by decide +kernel)) (by decide +kernel)
theorem k_583 : (.selects R_Disk y_Disk_differingBlock y_Disk_differingBlock : Cond) ∈ lw_tb := tb_in (List.mem_of_getElem? (i := 583) (by decide +kernel)) (by decide +kernel)
theorem k_584 : (.code y_Disk_differingBlock b_Disk_differingBlock 4 (some .int) : Cond) ∈ lw_tb := tb_in (List.mem_of_getElem? (i := 584) (by decide +kernel)) (by decide +kernel)
theorem k_593 : (.methodLink R_Tree 174 y_Disk_blocks : Cond) ∈ lw_tb := tb_in (List.mem_of_getElem? (i := 593) (by decide +kernel)) (by decide +kernel)
theorem k_594 : (.instanceMethod y_Disk_blocks : Cond) ∈ lw_tb := tb_in (List.mem_of_getElem? (i := 594) (by decide +kernel)) (by decide +kernel)
theorem k_595 : (.selects R_Disk y_Disk_blocks y_Disk_blocks : Cond) ∈ lw_tb := tb_in (List.mem_of_getElem? (i := 595) (by decide +kernel)) (by decide +kernel)
theorem k_596 : (.code y_Disk_blocks b_Disk_blocks 1 (some .int) : Cond) ∈ lw_tb := tb_in (List.mem_of_getElem? (i := 596) (by decide +kernel)) (by decide +kernel)
theorem k_597 : (.methodLink R_Tree 177 y_Disk_freeBlocks : Cond) ∈ lw_tb := tb_in (List.mem_of_getElem? (i := 597) (by decide +kernel)) (by decide +kernel)
theorem k_598 : (.instanceMethod y_Disk_freeBlocks : Cond) ∈ lw_tb := tb_in (List.mem_of_getElem? (i := 598) (by decide +kernel)) (by decide +kernel)
theorem k_599 : (.selects R_Disk y_Disk_freeBlocks y_Disk_freeBlocks : Cond) ∈ lw_tb := tb_in (List.mem_of_getElem? (i := 599) (by decide +kernel)) (by decide +kernel)
theorem k_600 : (.code y_Disk_freeBlocks b_Disk_freeBlocks 3 (some .int) : Cond) ∈ lw_tb := tb_in (List.mem_of_getElem? (i := 600) (by decide +kernel)) (by decide +kernel)
theorem k_601 : (.methodLink R_Tree 180 y_Inodes_ofKind : Cond) ∈ lw_tb := tb_in (List.mem_of_getElem? (i := 601) (by decide +kernel)) (by decide +kernel)
theorem k_602 : (.instanceMethod y_Inodes_ofKind : Cond) ∈ lw_tb := tb_in (List.mem_of_getElem? (i := 602) (by decide +kernel)) (by decide +kernel)
theorem k_603 : (.selects R_Inodes y_Inodes_ofKind y_Inodes_ofKind : Cond) ∈ lw_tb := tb_in (List.mem_of_getElem? (i := 603) (by decide +kernel)) (by decide +kernel)
theorem k_604 : (.code y_Inodes_ofKind b_Inodes_ofKind 4 (some .int) : Cond) ∈ lw_tb := tb_in (List.mem_of_getElem? (i := 604) (by decide +kernel)) (by decide +kernel)
theorem k_605 : (.methodLink R_Tree 183 y_Disk_earlyCommits : Cond) ∈ lw_tb := tb_in (List.mem_of_getElem? (i := 605) (by decide +kernel)) (by decide +kernel)
theorem k_606 : (.instanceMethod y_Disk_earlyCommits : Cond) ∈ lw_tb := tb_in (List.mem_of_getElem? (i := 606) (by decide +kernel)) (by decide +kernel)
theorem k_607 : (.selects R_Disk y_Disk_earlyCommits y_Disk_earlyCommits : Cond) ∈ lw_tb := tb_in (List.mem_of_getElem? (i := 607) (by decide +kernel)) (by decide +kernel)
theorem k_608 : (.code y_Disk_earlyCommits b_Disk_earlyCommits 1 (some .int) : Cond) ∈ lw_tb := tb_in (List.mem_of_getElem? (i := 608) (by decide +kernel)) (by decide +kernel)
end
section
/-! ROWS OF OUR OWN over the kit's: numbers by their Nat names, branches on them, a loop by a measure, calls that change nothing (Ro), calls that change a known part (Mu). -/
def zI (b : Bool) : Int32 := if b then 1 else 0
theorem zI_t : zI true = 1 := rfl
theorem zI_f : zI false = 0 := rfl
theorem zI_0 {b : Bool} : zI b = 0 ↔ b = false := by cases b <;> simp [zI]
theorem zI_nar (b : Bool) : narrow .boolean (.int (zI b)) = .int (zI b) := by cases b <;> decide +kernel
theorem zI_vp (b : Bool) : vp_nar .boolean (zI b) = zI b := by cases b <;> decide +kernel
theorem gz_dec {n k : Nat} (h : k ≤ n) : nI n + Int32.ofInt (-(k : Int)) = nI (n - k) := by
  obtain ⟨d, rfl⟩ : ∃ d, n = d + k := ⟨n - k, by omega⟩
  rw [Nat.add_sub_cancel, ← nI_add, Int32.add_assoc]
  have : nI k + Int32.ofInt (-(k : Int)) = 0 := by
    show Int32.ofInt (k : Int) + Int32.ofInt (-(k : Int)) = 0
    rw [← Int32.ofInt_add, Int.add_right_neg]; rfl
  rw [this]; simp
section GZ
variable {p : Program} {l : Launch} {e : Env} {R : Room} {s : State} {m : MethodId} {args : Array Value} {below : List Frame} {meth : Method} {c : Code} {H : Heap} {locs : List Loc} {cells slots : Nat} {Q : State → Prop} {cc : ByteArray} {pc : Nat} {ls : Array Slot} {rest : List Value}
theorem gz_iadd (hx : p.tables.exec = Jvm.exec) (hb : c.code = cc) {a b : Nat} (hd : decode cc pc = .ok (.iadd, 1)) (k : W p l e R s m args below meth c H locs cells slots Q (F0 m (pc + 1) ls (.int (nI (a + b)) :: rest))) : W p l e R s m args below meth c H locs cells slots Q (F0 m pc ls (.int (nI b) :: .int (nI a) :: rest)) := by
  refine lv_iadd hx hb hd ?_
  rw [nI_add]; exact k
theorem gz_isub (hx : p.tables.exec = Jvm.exec) (hb : c.code = cc) {a b : Nat} (hd : decode cc pc = .ok (.isub, 1)) (h : b ≤ a) (k : W p l e R s m args below meth c H locs cells slots Q (F0 m (pc + 1) ls (.int (nI (a - b)) :: rest))) : W p l e R s m args below meth c H locs cells slots Q (F0 m pc ls (.int (nI b) :: .int (nI a) :: rest)) := by
  refine lv_isub hx hb hd ?_
  rw [pk_sub h]; exact k
theorem gz_imul (hx : p.tables.exec = Jvm.exec) (hb : c.code = cc) {a b : Nat} (hd : decode cc pc = .ok (.imul, 1)) (k : W p l e R s m args below meth c H locs cells slots Q (F0 m (pc + 1) ls (.int (nI (a * b)) :: rest))) : W p l e R s m args below meth c H locs cells slots Q (F0 m pc ls (.int (nI b) :: .int (nI a) :: rest)) := by
  refine lv_imul hx hb hd ?_
  rw [pk_mul]; exact k
theorem gz_idiv (hx : p.tables.exec = Jvm.exec) (hb : c.code = cc) {a b : Nat} (hd : decode cc pc = .ok (.idiv, 1)) (ha : a < 2147483648) (h0 : 0 < b) (h1 : b < 2147483648) (k : W p l e R s m args below meth c H locs cells slots Q (F0 m (pc + 1) ls (.int (nI (a / b)) :: rest))) : W p l e R s m args below meth c H locs cells slots Q (F0 m pc ls (.int (nI b) :: .int (nI a) :: rest)) := by
  refine lv_idiv hx hb hd (nI_ne0 h0 h1) ?_
  rw [pk_div ha h0 h1]; exact k
theorem gz_irem (hx : p.tables.exec = Jvm.exec) (hb : c.code = cc) {a b : Nat} (hd : decode cc pc = .ok (.irem, 1)) (ha : a < 2147483648) (h0 : 0 < b) (h1 : b < 2147483648) (k : W p l e R s m args below meth c H locs cells slots Q (F0 m (pc + 1) ls (.int (nI (a % b)) :: rest))) : W p l e R s m args below meth c H locs cells slots Q (F0 m pc ls (.int (nI b) :: .int (nI a) :: rest)) := by
  refine lv_irem hx hb hd (nI_ne0 h0 h1) ?_
  rw [pk_rem ha h0 h1]; exact k
theorem gz_icmp_lt (hx : p.tables.exec = Jvm.exec) (hb : c.code = cc) {a b : Nat} {off : Int} {tgt : Nat} (hd : decode cc pc = .ok (.if_icmp .lt off, 3)) (ht : (pc : Int) + off = (tgt : Int)) (ha : a < 2147483648) (h1 : b < 2147483648)
    (kt : a < b → W p l e R s m args below meth c H locs cells slots Q (F0 m tgt ls rest)) (kf : b ≤ a → W p l e R s m args below meth c H locs cells slots Q (F0 m (pc + 3) ls rest)) : W p l e R s m args below meth c H locs cells slots Q (F0 m pc ls (.int (nI b) :: .int (nI a) :: rest)) :=
  lv_icmp_lt hx hb hd ht (fun h => kt ((nI_ltI ha h1).mp h)) (fun h => kf (by have := mt (nI_ltI ha h1).mpr h; omega))
theorem gz_icmp_ge (hx : p.tables.exec = Jvm.exec) (hb : c.code = cc) {a b : Nat} {off : Int} {tgt : Nat} (hd : decode cc pc = .ok (.if_icmp .ge off, 3)) (ht : (pc : Int) + off = (tgt : Int)) (ha : a < 2147483648) (h1 : b < 2147483648)
    (kt : b ≤ a → W p l e R s m args below meth c H locs cells slots Q (F0 m tgt ls rest)) (kf : a < b → W p l e R s m args below meth c H locs cells slots Q (F0 m (pc + 3) ls rest)) : W p l e R s m args below meth c H locs cells slots Q (F0 m pc ls (.int (nI b) :: .int (nI a) :: rest)) :=
  lv_icmp_ge hx hb hd ht (fun h => kt ((nI_leI h1 ha).mp h)) (fun h => kf (by have := mt (nI_leI h1 ha).mpr h; omega))
theorem gz_icmp_gt (hx : p.tables.exec = Jvm.exec) (hb : c.code = cc) {a b : Nat} {off : Int} {tgt : Nat} (hd : decode cc pc = .ok (.if_icmp .gt off, 3)) (ht : (pc : Int) + off = (tgt : Int)) (ha : a < 2147483648) (h1 : b < 2147483648)
    (kt : b < a → W p l e R s m args below meth c H locs cells slots Q (F0 m tgt ls rest)) (kf : a ≤ b → W p l e R s m args below meth c H locs cells slots Q (F0 m (pc + 3) ls rest)) : W p l e R s m args below meth c H locs cells slots Q (F0 m pc ls (.int (nI b) :: .int (nI a) :: rest)) :=
  lv_icmp_gt hx hb hd ht (fun h => kt ((nI_ltI h1 ha).mp h)) (fun h => kf (by have := mt (nI_ltI h1 ha).mpr h; omega))
theorem gz_icmp_le (hx : p.tables.exec = Jvm.exec) (hb : c.code = cc) {a b : Nat} {off : Int} {tgt : Nat} (hd : decode cc pc = .ok (.if_icmp .le off, 3)) (ht : (pc : Int) + off = (tgt : Int)) (ha : a < 2147483648) (h1 : b < 2147483648)
    (kt : a ≤ b → W p l e R s m args below meth c H locs cells slots Q (F0 m tgt ls rest)) (kf : b < a → W p l e R s m args below meth c H locs cells slots Q (F0 m (pc + 3) ls rest)) : W p l e R s m args below meth c H locs cells slots Q (F0 m pc ls (.int (nI b) :: .int (nI a) :: rest)) :=
  lv_icmp_le hx hb hd ht (fun h => kt ((nI_leI ha h1).mp h)) (fun h => kf (by have := mt (nI_leI ha h1).mpr h; omega))
theorem gz_icmp_eq (hx : p.tables.exec = Jvm.exec) (hb : c.code = cc) {a b : Nat} {off : Int} {tgt : Nat} (hd : decode cc pc = .ok (.if_icmp .eq off, 3)) (ht : (pc : Int) + off = (tgt : Int)) (ha : a < 2147483648) (h1 : b < 2147483648)
    (kt : a = b → W p l e R s m args below meth c H locs cells slots Q (F0 m tgt ls rest)) (kf : a ≠ b → W p l e R s m args below meth c H locs cells slots Q (F0 m (pc + 3) ls rest)) : W p l e R s m args below meth c H locs cells slots Q (F0 m pc ls (.int (nI b) :: .int (nI a) :: rest)) :=
  lv_icmp_eq hx hb hd ht (fun h => kt ((nI_eq ha h1).mp h)) (fun h => kf (mt (nI_eq ha h1).mpr h))
theorem gz_icmp_ne (hx : p.tables.exec = Jvm.exec) (hb : c.code = cc) {a b : Nat} {off : Int} {tgt : Nat} (hd : decode cc pc = .ok (.if_icmp .ne off, 3)) (ht : (pc : Int) + off = (tgt : Int)) (ha : a < 2147483648) (h1 : b < 2147483648)
    (kt : a ≠ b → W p l e R s m args below meth c H locs cells slots Q (F0 m tgt ls rest)) (kf : a = b → W p l e R s m args below meth c H locs cells slots Q (F0 m (pc + 3) ls rest)) : W p l e R s m args below meth c H locs cells slots Q (F0 m pc ls (.int (nI b) :: .int (nI a) :: rest)) :=
  lv_icmp_ne hx hb hd ht (fun h => kt (mt (nI_eq ha h1).mpr h)) (fun h => kf ((nI_eq ha h1).mp h))
theorem gz_if_eq (hx : p.tables.exec = Jvm.exec) (hb : c.code = cc) {a : Nat} {off : Int} {tgt : Nat} (hd : decode cc pc = .ok (.ifCond .eq off, 3)) (ht : (pc : Int) + off = (tgt : Int)) (ha : a < 2147483648)
    (kt : a = 0 → W p l e R s m args below meth c H locs cells slots Q (F0 m tgt ls rest)) (kf : a ≠ 0 → W p l e R s m args below meth c H locs cells slots Q (F0 m (pc + 3) ls rest)) : W p l e R s m args below meth c H locs cells slots Q (F0 m pc ls (.int (nI a) :: rest)) :=
  lv_if_eq hx hb hd ht (fun h => kt ((nI_eq ha (by decide)).mp (h.trans nI_0.symm))) (fun h => kf (fun q => h (by rw [q, nI_0])))
theorem gz_if_ne (hx : p.tables.exec = Jvm.exec) (hb : c.code = cc) {a : Nat} {off : Int} {tgt : Nat} (hd : decode cc pc = .ok (.ifCond .ne off, 3)) (ht : (pc : Int) + off = (tgt : Int)) (ha : a < 2147483648)
    (kt : a ≠ 0 → W p l e R s m args below meth c H locs cells slots Q (F0 m tgt ls rest)) (kf : a = 0 → W p l e R s m args below meth c H locs cells slots Q (F0 m (pc + 3) ls rest)) : W p l e R s m args below meth c H locs cells slots Q (F0 m pc ls (.int (nI a) :: rest)) :=
  lv_if_ne hx hb hd ht (fun h => kt (fun q => h (by rw [q, nI_0]))) (fun h => kf ((nI_eq ha (by decide)).mp (h.trans nI_0.symm)))
theorem gz_if_lt (hx : p.tables.exec = Jvm.exec) (hb : c.code = cc) {a : Nat} {off : Int} {tgt : Nat} (hd : decode cc pc = .ok (.ifCond .lt off, 3)) (ht : (pc : Int) + off = (tgt : Int)) (ha : a < 2147483648)
    (kf : W p l e R s m args below meth c H locs cells slots Q (F0 m (pc + 3) ls rest)) : W p l e R s m args below meth c H locs cells slots Q (F0 m pc ls (.int (nI a) :: rest)) :=
  lv_if_lt hx hb hd ht (fun h => absurd h (nI_pos ha)) (fun _ => kf)
theorem gz_if_ge (hx : p.tables.exec = Jvm.exec) (hb : c.code = cc) {a : Nat} {off : Int} {tgt : Nat} (hd : decode cc pc = .ok (.ifCond .ge off, 3)) (ht : (pc : Int) + off = (tgt : Int)) (ha : a < 2147483648)
    (kt : W p l e R s m args below meth c H locs cells slots Q (F0 m tgt ls rest)) : W p l e R s m args below meth c H locs cells slots Q (F0 m pc ls (.int (nI a) :: rest)) :=
  lv_if_ge hx hb hd ht (fun _ => kt) (fun h => absurd (nI_pos' ha) h)
theorem gz_if_le (hx : p.tables.exec = Jvm.exec) (hb : c.code = cc) {a : Nat} {off : Int} {tgt : Nat} (hd : decode cc pc = .ok (.ifCond .le off, 3)) (ht : (pc : Int) + off = (tgt : Int)) (ha : a < 2147483648)
    (kt : a = 0 → W p l e R s m args below meth c H locs cells slots Q (F0 m tgt ls rest)) (kf : 0 < a → W p l e R s m args below meth c H locs cells slots Q (F0 m (pc + 3) ls rest)) : W p l e R s m args below meth c H locs cells slots Q (F0 m pc ls (.int (nI a) :: rest)) :=
  lv_if_le hx hb hd ht (fun h => kt (by rcases Nat.eq_zero_or_pos a with q | q; exact q; exact absurd h (nI_nle q ha))) (fun h => kf (by rcases Nat.eq_zero_or_pos a with q | q; exact absurd (by rw [q, nI_0]; decide) h; exact q))
theorem gz_if_gt (hx : p.tables.exec = Jvm.exec) (hb : c.code = cc) {a : Nat} {off : Int} {tgt : Nat} (hd : decode cc pc = .ok (.ifCond .gt off, 3)) (ht : (pc : Int) + off = (tgt : Int)) (ha : a < 2147483648)
    (kt : 0 < a → W p l e R s m args below meth c H locs cells slots Q (F0 m tgt ls rest)) (kf : a = 0 → W p l e R s m args below meth c H locs cells slots Q (F0 m (pc + 3) ls rest)) : W p l e R s m args below meth c H locs cells slots Q (F0 m pc ls (.int (nI a) :: rest)) :=
  lv_if_gt hx hb hd ht (fun h => kt (by rcases Nat.eq_zero_or_pos a with q | q; rw [q, nI_0] at h; exact absurd h (by decide); exact q)) (fun h => kf (by rcases Nat.eq_zero_or_pos a with q | q; exact q; exact absurd (by rw [← nI_0]; exact nI_lt q ha) h))
theorem gz_ifz_eq (hx : p.tables.exec = Jvm.exec) (hb : c.code = cc) {a : Bool} {off : Int} {tgt : Nat} (hd : decode cc pc = .ok (.ifCond .eq off, 3)) (ht : (pc : Int) + off = (tgt : Int))
    (kt : a = false → W p l e R s m args below meth c H locs cells slots Q (F0 m tgt ls rest)) (kf : a = true → W p l e R s m args below meth c H locs cells slots Q (F0 m (pc + 3) ls rest)) : W p l e R s m args below meth c H locs cells slots Q (F0 m pc ls (.int (zI a) :: rest)) :=
  lv_if_eq hx hb hd ht (fun h => kt (zI_0.mp h)) (fun h => kf (by cases a; exact absurd rfl h; rfl))
theorem gz_ifz_ne (hx : p.tables.exec = Jvm.exec) (hb : c.code = cc) {a : Bool} {off : Int} {tgt : Nat} (hd : decode cc pc = .ok (.ifCond .ne off, 3)) (ht : (pc : Int) + off = (tgt : Int))
    (kt : a = true → W p l e R s m args below meth c H locs cells slots Q (F0 m tgt ls rest)) (kf : a = false → W p l e R s m args below meth c H locs cells slots Q (F0 m (pc + 3) ls rest)) : W p l e R s m args below meth c H locs cells slots Q (F0 m pc ls (.int (zI a) :: rest)) :=
  lv_if_ne hx hb hd ht (fun h => kt (by cases a; exact absurd rfl h; rfl)) (fun h => kf (zI_0.mp h))
/-- a loop by a measure: x its numbers, I what holds at its head -/
theorem gz_loop {σ : Type} (hd : Nat) (I : σ → Heap → List Loc → Array Slot → Prop) (μ : σ → Nat)
    (step : ∀ (x : σ) (H : Heap) (locs : List Loc) (ls : Array Slot), I x H locs ls → (∀ (y : σ) (H' : Heap) (locs' : List Loc) (ls' : Array Slot), μ y < μ x → I y H' locs' ls' → W p l e R s m args below meth c H' locs' cells slots Q (F0 m hd ls' [])) → W p l e R s m args below meth c H locs cells slots Q (F0 m hd ls []))
    (x0 : σ) (h0 : I x0 H locs ls) : W p l e R s m args below meth c H locs cells slots Q (F0 m hd ls []) := by
  have key : ∀ (n : Nat) (x : σ) (H : Heap) (locs : List Loc) (ls : Array Slot), μ x < n → I x H locs ls → W p l e R s m args below meth c H locs cells slots Q (F0 m hd ls []) := by
    intro n
    induction n with
    | zero => intro x H locs ls h _; exact absurd h (Nat.not_lt_zero _)
    | succ n ih => intro x H locs ls h hI; exact step x H locs ls hI (fun y H' locs' ls' hy hI' => ih y H' locs' ls' (Nat.lt_of_lt_of_le hy (Nat.le_of_lt_succ h)) hI')
  exact key (μ x0 + 1) x0 H locs ls (Nat.lt_succ_self _) h0
variable {D : va_G} {cl : List vw_C} {tys : List (ClassId × FieldType)} {ws wc w1 wr : va_W} {A : Nat → Prop} {H0 : Heap} {a : Nat} {st0 As : List Value}
theorem gz_lald (hx : p.tables.exec = Jvm.exec) (hb : c.code = cc) (hK : va_K D cl tys s) (hP : va_P D cl ws H) (q0 t0 : Nat) {cA : ClassId} {n : Nat} {f : Nat → Int64} (ha : ws[q0]? = some (a, .inl (cA, n, .inr (.inl f)))) (ht : tys[t0]? = some (cA, .long)) {i : Nat} (hin : i < n) (hn : n < 2147483648) (hd : decode cc pc = .ok (.laload, 1))
    (kk : W p l e R s m args below meth c H locs cells slots Q (F0 m (pc + 1) ls (.long (f i) :: rest))) : W p l e R s m args below meth c H locs cells slots Q (F0 m pc ls (.int (nI i) :: .ref a :: rest)) := by
  refine va_lald hx hb hK hP q0 t0 ha ht (vp_in_nI hin hn) hd ?_
  rw [nI_clamp (Nat.lt_trans hin hn)]; exact kk
theorem gz_iald (hx : p.tables.exec = Jvm.exec) (hb : c.code = cc) (hK : va_K D cl tys s) (hP : va_P D cl ws H) (q0 t0 : Nat) {cA : ClassId} {n : Nat} {f : Nat → Int32} (ha : ws[q0]? = some (a, .inl (cA, n, .inl f))) (ht : tys[t0]? = some (cA, .int)) {i : Nat} (hin : i < n) (hn : n < 2147483648) (hd : decode cc pc = .ok (.iaload, 1))
    (kk : W p l e R s m args below meth c H locs cells slots Q (F0 m (pc + 1) ls (.int (f i) :: rest))) : W p l e R s m args below meth c H locs cells slots Q (F0 m pc ls (.int (nI i) :: .ref a :: rest)) := by
  refine va_iald hx hb hK hP q0 t0 ha ht (vp_in_nI hin hn) hd ?_
  rw [nI_clamp (Nat.lt_trans hin hn)]; exact kk
theorem gz_zald (hx : p.tables.exec = Jvm.exec) (hb : c.code = cc) (hK : va_K D cl tys s) (hP : va_P D cl ws H) (q0 t0 : Nat) {cA : ClassId} {n : Nat} {f : Nat → Bool} (ha : ws[q0]? = some (a, .inl (cA, n, .inl (fun k => zI (f k))))) (ht : tys[t0]? = some (cA, .boolean)) {i : Nat} (hin : i < n) (hn : n < 2147483648) (hd : decode cc pc = .ok (.baload, 1))
    (kk : W p l e R s m args below meth c H locs cells slots Q (F0 m (pc + 1) ls (.int (zI (f i)) :: rest))) : W p l e R s m args below meth c H locs cells slots Q (F0 m pc ls (.int (nI i) :: .ref a :: rest)) := by
  refine va_zald hx hb hK hP q0 t0 ha ht (vp_in_nI hin hn) hd ?_
  rw [nI_clamp (Nat.lt_trans hin hn)]; exact kk
theorem gz_last (hx : p.tables.exec = Jvm.exec) (hb : c.code = cc) (hK : va_K D cl tys s) (hP : va_P D cl ws H) (hD : va_D A ws) (hS : va_S A H0 H locs) (q0 t0 : Nat) {cA : ClassId} {n : Nat} {f : Nat → Int64} (ha : ws[q0]? = some (a, .inl (cA, n, .inr (.inl f)))) (ht : tys[t0]? = some (cA, .long)) {i : Nat} {x : Int64} (hin : i < n) (hn : n < 2147483648) (hd : decode cc pc = .ok (.lastore, 1))
    (kk : ∀ (H1 : Heap) (locs1 : List Loc), va_P D cl (ws.set q0 (a, .inl (cA, n, .inr (.inl (va_up f i x))))) H1 → va_D A (ws.set q0 (a, .inl (cA, n, .inr (.inl (va_up f i x))))) → va_S A H0 H1 locs1 → W p l e R s m args below meth c H1 locs1 cells slots Q (F0 m (pc + 1) ls rest)) : W p l e R s m args below meth c H locs cells slots Q (F0 m pc ls (.long x :: .int (nI i) :: .ref a :: rest)) := by
  refine va_last hx hb hK hP hD hS q0 t0 ha ht (vp_in_nI hin hn) hd (fun H1 locs1 => ?_)
  rw [nI_clamp (Nat.lt_trans hin hn), show vp_updL f i x = va_up f i x from rfl]; exact kk H1 locs1
theorem gz_iast (hx : p.tables.exec = Jvm.exec) (hb : c.code = cc) (hK : va_K D cl tys s) (hP : va_P D cl ws H) (hD : va_D A ws) (hS : va_S A H0 H locs) (q0 t0 : Nat) {cA : ClassId} {n : Nat} {f : Nat → Int32} (ha : ws[q0]? = some (a, .inl (cA, n, .inl f))) (ht : tys[t0]? = some (cA, .int)) {i : Nat} {x : Int32} (hin : i < n) (hn : n < 2147483648) (hd : decode cc pc = .ok (.iastore, 1))
    (kk : ∀ (H1 : Heap) (locs1 : List Loc), va_P D cl (ws.set q0 (a, .inl (cA, n, .inl (va_up f i x)))) H1 → va_D A (ws.set q0 (a, .inl (cA, n, .inl (va_up f i x)))) → va_S A H0 H1 locs1 → W p l e R s m args below meth c H1 locs1 cells slots Q (F0 m (pc + 1) ls rest)) : W p l e R s m args below meth c H locs cells slots Q (F0 m pc ls (.int x :: .int (nI i) :: .ref a :: rest)) := by
  refine va_iast hx hb hK hP hD hS q0 t0 ha ht (vp_in_nI hin hn) hd (fun H1 locs1 => ?_)
  rw [nI_clamp (Nat.lt_trans hin hn), show upd f i x = va_up f i x from rfl]; exact kk H1 locs1
theorem gz_upz (f : Nat → Bool) (i : Nat) (b : Bool) : upd (fun k => zI (f k)) i (vp_nar .boolean (zI b)) = fun k => zI (va_up f i b k) := by
  funext j
  rw [zI_vp]
  by_cases h : j = i
  · subst h; simp [upd, va_up]
  · simp [upd, va_up, h]
theorem gz_zast (hx : p.tables.exec = Jvm.exec) (hb : c.code = cc) (hK : va_K D cl tys s) (hP : va_P D cl ws H) (hD : va_D A ws) (hS : va_S A H0 H locs) (q0 t0 : Nat) {cA : ClassId} {n : Nat} {f : Nat → Bool} (ha : ws[q0]? = some (a, .inl (cA, n, .inl (fun k => zI (f k))))) (ht : tys[t0]? = some (cA, .boolean)) {i : Nat} {x : Int32} (b : Bool) (hxb : x = zI b) (hin : i < n) (hn : n < 2147483648) (hd : decode cc pc = .ok (.bastore, 1))
    (kk : ∀ (H1 : Heap) (locs1 : List Loc), va_P D cl (ws.set q0 (a, .inl (cA, n, .inl (fun k => zI (va_up f i b k))))) H1 → va_D A (ws.set q0 (a, .inl (cA, n, .inl (fun k => zI (va_up f i b k))))) → va_S A H0 H1 locs1 → W p l e R s m args below meth c H1 locs1 cells slots Q (F0 m (pc + 1) ls rest)) : W p l e R s m args below meth c H locs cells slots Q (F0 m pc ls (.int x :: .int (nI i) :: .ref a :: rest)) := by
  subst hxb
  refine va_zast hx hb hK hP hD hS q0 t0 ha ht (vp_in_nI hin hn) hd (fun H1 locs1 => ?_)
  rw [nI_clamp (Nat.lt_trans hin hn), gz_upz]; exact kk H1 locs1
theorem gz_copyl (hx : p.tables.exec = Jvm.exec) (hb : c.code = cc) (hml : c.maxLocals = ls.size) {own : String} {index : Nat} (hown : s.vm.findClass own = some m.cls) (hlink : (Cond.methodLink own index arraycopyName).before args s = true) (hnat : (Cond.native arraycopyName).before args s = true) (hstat : (Cond.static arraycopyName).before args s = true) (hini : (Cond.initialized "java/lang/System").before args s = true)
    (hK : va_K D cl tys s) (hP : va_P D cl ws H) (hD : va_D A ws) (hS : va_S A H0 H locs) (q0 q1 t0 t1 : Nat) {a0 : Nat} {c0 c1 : ClassId} {n0 n1 : Nat} {f g : Nat → Int64} (ha0 : ws[q0]? = some (a0, .inl (c0, n0, .inr (.inl f)))) (ha1 : ws[q1]? = some (a, .inl (c1, n1, .inr (.inl g)))) (ht0 : tys[t0]? = some (c0, .long)) (ht1 : tys[t1]? = some (c1, .long))
    {sp dp n : Nat} (h4 : sp + n ≤ n0) (h5 : dp + n ≤ n1) (h0 : n0 < 2147483648) (h1 : n1 < 2147483648) (hframes : 1 ≤ R.frames) (hlocals : (rest.map fun v => v.category).sum + (nativeFrameWords "java/lang/System" "arraycopy" 5 + 11) ≤ R.locals) (hd : decode cc pc = .ok (.invokestatic index, 3))
    (kk : ∀ (H1 : Heap) (locs1 : List Loc), va_P D cl (ws.set q1 (a, .inl (c1, n1, .inr (.inl (va_cpy f g sp dp n))))) H1 → va_D A (ws.set q1 (a, .inl (c1, n1, .inr (.inl (va_cpy f g sp dp n))))) → va_S A H0 H1 locs1 → W p l e R s m args below meth c H1 locs1 cells slots Q (F0 m (pc + 3) ls rest)) : W p l e R s m args below meth c H locs cells slots Q (F0 m pc ls (.int (nI n) :: .int (nI dp) :: .ref a :: .int (nI sp) :: .ref a0 :: rest)) := by
  have e1 : (nI sp).toNatClampNeg = sp := nI_clamp (by omega)
  have e2 : (nI dp).toNatClampNeg = dp := nI_clamp (by omega)
  have e3 : (nI n).toNatClampNeg = n := nI_clamp (by omega)
  refine va_copyl hx hb hml hown hlink hnat hstat hini hK hP hD hS q0 q1 t0 t1 ha0 ha1 ht0 ht1 rfl (nI_pos (by omega)) (nI_pos (by omega)) (nI_pos (by omega)) (by rw [e1, e3]; exact h4) (by rw [e2, e3]; exact h5) (fun _ _ => rfl) hframes hlocals hd (fun H1 locs1 => ?_)
  rw [e1, e2, e3]; exact kk H1 locs1
theorem gz_mmin (hx : p.tables.exec = Jvm.exec) (hb : c.code = cc) (hml : c.maxLocals = ls.size) {own : String} {index : Nat} (hown : s.vm.findClass own = some m.cls) (hlink : (Cond.methodLink own index Lib.Math.min.name).before args s = true) (hstat : (Cond.static Lib.Math.min.name).before args s = true) (hini : (Cond.initialized "java/lang/Math").before args s = true) (hcode : (Cond.code Lib.Math.min.name Lib.Math.min.code 2 (some .int)).before args s = true)
    (hframes : 1 ≤ R.frames) (hlocals : (rest.map fun v => v.category).sum + 13 ≤ R.locals) (hc : cells ≤ R.cells) (hs : slots ≤ R.slots) {x y : Nat} (h1 : x < 2147483648) (h2 : y < 2147483648) (hd : decode cc pc = .ok (.invokestatic index, 3))
    (kk : W p l e R s m args below meth c H locs cells slots Q (F0 m (pc + 3) ls (.int (nI (min x y)) :: rest))) : W p l e R s m args below meth c H locs cells slots Q (F0 m pc ls (.int (nI y) :: .int (nI x) :: rest)) := by
  refine va_mmin hx hb hml hown hlink hstat hini hcode hframes hlocals hc hs hd ?_
  have e : (if nI y < nI x then nI y else nI x) = nI (min x y) := by
    by_cases h : y < x
    · rw [if_pos (nI_lt h h1), Nat.min_eq_right (Nat.le_of_lt h)]
    · rw [if_neg (nI_nlt (by omega) h2), Nat.min_eq_left (by omega)]
  rw [e]; exact kk
theorem gz_mmax (hx : p.tables.exec = Jvm.exec) (hb : c.code = cc) (hml : c.maxLocals = ls.size) {own : String} {index : Nat} (hown : s.vm.findClass own = some m.cls) (hlink : (Cond.methodLink own index Lib.Math.max.name).before args s = true) (hstat : (Cond.static Lib.Math.max.name).before args s = true) (hini : (Cond.initialized "java/lang/Math").before args s = true) (hcode : (Cond.code Lib.Math.max.name Lib.Math.max.code 2 (some .int)).before args s = true)
    (hframes : 1 ≤ R.frames) (hlocals : (rest.map fun v => v.category).sum + 13 ≤ R.locals) (hc : cells ≤ R.cells) (hs : slots ≤ R.slots) {x y : Nat} (h1 : x < 2147483648) (h2 : y < 2147483648) (hd : decode cc pc = .ok (.invokestatic index, 3))
    (kk : W p l e R s m args below meth c H locs cells slots Q (F0 m (pc + 3) ls (.int (nI (max x y)) :: rest))) : W p l e R s m args below meth c H locs cells slots Q (F0 m pc ls (.int (nI y) :: .int (nI x) :: rest)) := by
  refine va_mmax hx hb hml hown hlink hstat hini hcode hframes hlocals hc hs hd ?_
  have e : (if nI x < nI y then nI y else nI x) = nI (max x y) := by
    by_cases h : x < y
    · rw [if_pos (nI_lt h h2), Nat.max_eq_right (Nat.le_of_lt h)]
    · rw [if_neg (nI_nlt (by omega) h1), Nat.max_eq_left (by omega)]
  rw [e]; exact kk
end GZ
-- contracts: a method that changes nothing and answers r; a method that takes the cells wc to w1
abbrev RoI (l : Launch) (y : MethodName) (ws1 : List Cond) (rm : Room) (av : List Value) (P : State → Prop) (r : Int32) : Prop := Met l y ws1 rm (va_Pc av P) (va_Qi (fun r' (_ : Unit) => r' = r) (fun _ _ => True) (fun _ => False)) 0 0 (fun _ => False)
abbrev RoU (l : Launch) (y : MethodName) (ws1 : List Cond) (rm : Room) (av : List Value) (P : State → Prop) : Prop := Met l y ws1 rm (va_Pc av P) (va_Qv (fun (_ : Unit) => True) (fun _ _ => True) (fun _ => False)) 0 0 (fun _ => False)
abbrev RoL (l : Launch) (y : MethodName) (ws1 : List Cond) (rm : Room) (av : List Value) (P : State → Prop) (r : Int64) : Prop := Met l y ws1 rm (va_Pc av P) (va_Ql (fun r' (_ : Unit) => r' = r) (fun _ _ => True) (fun _ => False)) 0 0 (fun _ => False)
abbrev RoP (D : va_G) (cl : List vw_C) (tys : List (ClassId × FieldType)) (wc : va_W) : State → Prop := fun U => va_P D cl wc U.heap ∧ va_K D cl tys U
abbrev MuP (D : va_G) (cl : List vw_C) (tys : List (ClassId × FieldType)) (wc : va_W) (sz : Nat) : State → Prop := fun U => U.heap.size = sz ∧ va_P D cl wc U.heap ∧ va_K D cl tys U ∧ va_D (fun _ => True) wc
abbrev MuB (D : va_G) (cl : List vw_C) (A : Nat → Prop) (w1 : va_W) : Unit → State → Prop := fun _ t => va_P D cl w1 t.heap ∧ va_D A w1
abbrev MuV (l : Launch) (y : MethodName) (ws1 : List Cond) (rm : Room) (av : List Value) (D : va_G) (cl : List vw_C) (tys : List (ClassId × FieldType)) (wc w1 : va_W) : Prop := ∀ sz : Nat, Met l y ws1 rm (va_Pc av (MuP D cl tys wc sz)) (va_Qv (fun _ => True) (MuB D cl (va_A wc sz) w1) (va_A wc sz)) 0 0 (va_A wc sz)
abbrev MuI (l : Launch) (y : MethodName) (ws1 : List Cond) (rm : Room) (av : List Value) (D : va_G) (cl : List vw_C) (tys : List (ClassId × FieldType)) (wc w1 : va_W) (r : Int32) : Prop := ∀ sz : Nat, Met l y ws1 rm (va_Pc av (MuP D cl tys wc sz)) (va_Qi (fun r' _ => r' = r) (MuB D cl (va_A wc sz) w1) (va_A wc sz)) 0 0 (va_A wc sz)
theorem gz_blR {av : List Value} {D : va_G} {cl : List vw_C} {tys : List (ClassId × FieldType)} {wc : va_W} : FrameBlind (va_Pc av (RoP D cl tys wc)) := fun a U g mk q => ⟨q.1, q.2.1, va_K.moved (u := U) (U := U.calling g mk a) (Vm.Alike.refl U.vm) q.2.2⟩
theorem gz_blM {av : List Value} {D : va_G} {cl : List vw_C} {tys : List (ClassId × FieldType)} {wc : va_W} {sz : Nat} : FrameBlind (va_Pc av (MuP D cl tys wc sz)) := fun a U g mk q => ⟨q.1, q.2.1, q.2.2.1, va_K.moved (u := U) (U := U.calling g mk a) (Vm.Alike.refl U.vm) q.2.2.2.1, q.2.2.2.2⟩
theorem gz_blT {av : List Value} : FrameBlind (va_Pc av (fun _ => True)) := fun _ _ _ _ q => q
section GC
variable {p : Program} {l : Launch} {e : Env} {R : Room} {s : State} {m : MethodId} {args : Array Value} {below : List Frame} {meth : Method} {c : Code} {H : Heap} {locs : List Loc} {cells slots : Nat} {Q : State → Prop} {cc : ByteArray} {pc : Nat} {ls : Array Slot} {rest : List Value}
variable {Ts ws1 : List Cond} {bytes : ByteArray} {nL maxL index n : Nat} {own C : String} {y : MethodName} {ret : Option FieldType} {rm : Room} {b : Addr} {As st0 : List Value} {D : va_G} {cl : List vw_C} {tys : List (ClassId × FieldType)} {ws wc w1 wr : va_W} {A : Nat → Prop} {H0 : Heap} {r : Int32}
/-- a virtual call that changes nothing -/
theorem gz_roV (S : CallFix p m c cc nL s args Ts own) (hM : RoI l y ws1 rm (.ref b :: As) (RoP D cl tys wc) r) (cw : CallW R s args own C index y bytes maxL ret ws1 rm 0 0 n)
    (hK : va_K D cl tys s) (hP : va_P D cl ws H) (is : List Nat) (hs : is.filterMap (fun i => ws[i]?) = wc) (q0 : Nat) {ci : Nat} {T : u_T} {N : Nat} {fs : List Value} (he : ws[q0]? = some (b, .inr (ci, fs))) (hc : cl[ci]? = some (C, T, N))
    (hn : As.length = n) (hsize : ls.size = nL) (hst : st0 = As.reverse ++ .ref b :: rest) (hW : (rest.map fun v => v.category).sum ≤ 8) (hdg : decode cc pc = .ok (.invokevirtual index, 3)) (hf : cells ≤ R.cells ∧ slots ≤ R.slots) (hS : va_S A H0 H locs)
    (kk : ∀ (H1 : Heap) (locs1 : List Loc), va_P D cl ws H1 → va_S A H0 H1 locs1 → W p l e R s m args below meth c H1 locs1 cells slots Q (F0 m (pc + 3) ls (.int r :: rest))) : W p l e R s m args below meth c H locs cells slots Q (F0 m pc ls st0) := by
  refine va_calli (va_runV S hM cw ⟨gz_blR, va_recv hK hP hc he, fun U hU hW => ⟨rfl, by rw [hU]; exact hP.sub is hs, va_K.moved hW.alike hK⟩⟩ rfl hn hsize hst (lv_room hW) hdg hf) hS (fun q _ h => h.elim) (fun q h => h.elim) (fun r u t H1 locs1 ht hvm hw _ hz hk hS1 => ?_)
  subst hw
  exact kk H1 locs1 (hP.kept (fun k q hq => hk q.1 ((hP k q hq).lt) (fun h => h))) hS1
/-- a static call that changes nothing and looks at nothing -/
theorem gz_roS (S : CallFix p m c cc nL s args Ts own) (hM : RoI l y ws1 rm As (fun _ => True) r) (cw : CallB R s args own index y bytes maxL ret ws1 rm 0 0 n ∧ (Cond.static y).before args s = true)
    (hP : va_P D cl ws H) (hn : As.length = n) (hsize : ls.size = nL) (hst : st0 = As.reverse ++ rest) (hW : (rest.map fun v => v.category).sum ≤ 8) (hdg : decode cc pc = .ok (.invokestatic index, 3)) (hf : cells ≤ R.cells ∧ slots ≤ R.slots) (hS : va_S A H0 H locs)
    (kk : ∀ (H1 : Heap) (locs1 : List Loc), va_P D cl ws H1 → va_S A H0 H1 locs1 → W p l e R s m args below meth c H1 locs1 cells slots Q (F0 m (pc + 3) ls (.int r :: rest))) : W p l e R s m args below meth c H locs cells slots Q (F0 m pc ls st0) := by
  refine va_calli (va_runS S hM cw ⟨gz_blT, fun U hU hW => ⟨rfl, trivial⟩⟩ rfl hn hsize hst (lv_room hW) hdg hf) hS (fun q _ h => h.elim) (fun q h => h.elim) (fun r u t H1 locs1 ht hvm hw _ hz hk hS1 => ?_)
  subst hw
  exact kk H1 locs1 (hP.kept (fun k q hq => hk q.1 ((hP k q hq).lt) (fun h => h))) hS1
theorem gz_roSv (S : CallFix p m c cc nL s args Ts own) (hM : RoU l y ws1 rm As (fun _ => True)) (cw : CallB R s args own index y bytes maxL ret ws1 rm 0 0 n ∧ (Cond.static y).before args s = true)
    (hP : va_P D cl ws H) (hn : As.length = n) (hsize : ls.size = nL) (hst : st0 = As.reverse ++ rest) (hW : (rest.map fun v => v.category).sum ≤ 8) (hdg : decode cc pc = .ok (.invokestatic index, 3)) (hf : cells ≤ R.cells ∧ slots ≤ R.slots) (hS : va_S A H0 H locs)
    (kk : ∀ (H1 : Heap) (locs1 : List Loc), va_P D cl ws H1 → va_S A H0 H1 locs1 → W p l e R s m args below meth c H1 locs1 cells slots Q (F0 m (pc + 3) ls rest)) : W p l e R s m args below meth c H locs cells slots Q (F0 m pc ls st0) := by
  refine va_callv (va_runS S hM cw ⟨gz_blT, fun U hU hW => ⟨rfl, trivial⟩⟩ rfl hn hsize hst (lv_room hW) hdg hf) hS (fun q _ h => h.elim) (fun q h => h.elim) (fun u t H1 locs1 ht hvm hw _ hz hk hS1 => ?_)
  exact kk H1 locs1 (hP.kept (fun k q hq => hk q.1 ((hP k q hq).lt) (fun h => h))) hS1
/-- a virtual call that takes the cells wc to w1; no answer -/
theorem gz_muV (S : CallFix p m c cc nL s args Ts own) (hM : MuV l y ws1 rm (.ref b :: As) D cl tys wc w1) (cw : CallW R s args own C index y bytes maxL ret ws1 rm 0 0 n)
    (hK : va_K D cl tys s) (hP : va_P D cl ws H) (hD : va_D A ws) (hA : ∀ q, H0.size ≤ q → A q) (isC isR : List Nat) (hs : isC.filterMap (fun i => ws[i]?) = wc) (hC : isC.map (fun i => ws[i]?) = wc.map some) (hnC : va_nd isC = true) (hR : isR.map (fun i => ws[i]?) = wr.map some) (hnR : va_nd isR = true) (hdis : ∀ i ∈ isR, i ∉ isC)
    (q0 : Nat) {ci : Nat} {T : u_T} {N : Nat} {fs : List Value} (he : ws[q0]? = some (b, .inr (ci, fs))) (hc : cl[ci]? = some (C, T, N))
    (hn : As.length = n) (hsize : ls.size = nL) (hst : st0 = As.reverse ++ .ref b :: rest) (hW : (rest.map fun v => v.category).sum ≤ 8) (hdg : decode cc pc = .ok (.invokevirtual index, 3)) (hf : cells ≤ R.cells ∧ slots ≤ R.slots) (hS : va_S A H0 H locs)
    (kk : ∀ (H1 : Heap) (locs1 : List Loc), va_P D cl (wr ++ w1) H1 → va_D A (wr ++ w1) → va_S A H0 H1 locs1 → W p l e R s m args below meth c H1 locs1 cells slots Q (F0 m (pc + 3) ls rest)) : W p l e R s m args below meth c H locs cells slots Q (F0 m pc ls st0) := by
  have hFc := va_free (wc := wc) hD hS hA isC hC
  have hDc := hD.sub (ws' := wc) isC hnC hC
  refine va_callv (va_runV S (hM H.size) cw ⟨gz_blM, va_recv hK hP hc he, fun U hU hW => ⟨rfl, by rw [hU], by rw [hU]; exact hP.sub isC hs, va_K.moved hW.alike hK, hDc.weaken (fun _ _ _ _ => trivial)⟩⟩ rfl hn hsize hst (lv_room hW) hdg hf) hS (fun q _ h => hFc q h) hFc (fun u t H1 locs1 ht hvm _ hB hz hk hS1 => ?_)
  obtain ⟨hP1, hD1⟩ := hB
  rw [ht] at hP1
  obtain ⟨hP2, hD2⟩ := va_join (wr := wr) (w1 := w1) hP hD isC isR hC hR hnR hdis hk hFc hP1 hD1
  exact kk H1 locs1 hP2 hD2 hS1
/-- the same with a number as answer -/
theorem gz_muI (S : CallFix p m c cc nL s args Ts own) (hM : MuI l y ws1 rm (.ref b :: As) D cl tys wc w1 r) (cw : CallW R s args own C index y bytes maxL ret ws1 rm 0 0 n)
    (hK : va_K D cl tys s) (hP : va_P D cl ws H) (hD : va_D A ws) (hA : ∀ q, H0.size ≤ q → A q) (isC isR : List Nat) (hs : isC.filterMap (fun i => ws[i]?) = wc) (hC : isC.map (fun i => ws[i]?) = wc.map some) (hnC : va_nd isC = true) (hR : isR.map (fun i => ws[i]?) = wr.map some) (hnR : va_nd isR = true) (hdis : ∀ i ∈ isR, i ∉ isC)
    (q0 : Nat) {ci : Nat} {T : u_T} {N : Nat} {fs : List Value} (he : ws[q0]? = some (b, .inr (ci, fs))) (hc : cl[ci]? = some (C, T, N))
    (hn : As.length = n) (hsize : ls.size = nL) (hst : st0 = As.reverse ++ .ref b :: rest) (hW : (rest.map fun v => v.category).sum ≤ 8) (hdg : decode cc pc = .ok (.invokevirtual index, 3)) (hf : cells ≤ R.cells ∧ slots ≤ R.slots) (hS : va_S A H0 H locs)
    (kk : ∀ (H1 : Heap) (locs1 : List Loc), va_P D cl (wr ++ w1) H1 → va_D A (wr ++ w1) → va_S A H0 H1 locs1 → W p l e R s m args below meth c H1 locs1 cells slots Q (F0 m (pc + 3) ls (.int r :: rest))) : W p l e R s m args below meth c H locs cells slots Q (F0 m pc ls st0) := by
  have hFc := va_free (wc := wc) hD hS hA isC hC
  have hDc := hD.sub (ws' := wc) isC hnC hC
  refine va_calli (va_runV S (hM H.size) cw ⟨gz_blM, va_recv hK hP hc he, fun U hU hW => ⟨rfl, by rw [hU], by rw [hU]; exact hP.sub isC hs, va_K.moved hW.alike hK, hDc.weaken (fun _ _ _ _ => trivial)⟩⟩ rfl hn hsize hst (lv_room hW) hdg hf) hS (fun q _ h => hFc q h) hFc (fun r u t H1 locs1 ht hvm hw hB hz hk hS1 => ?_)
  subst hw
  obtain ⟨hP1, hD1⟩ := hB
  rw [ht] at hP1
  obtain ⟨hP2, hD2⟩ := va_join (wr := wr) (w1 := w1) hP hD isC isR hC hR hnR hdis hk hFc hP1 hD1
  exact kk H1 locs1 hP2 hD2 hS1
/-- a static call that takes the cells wc to w1; no answer -/
theorem gz_muS (S : CallFix p m c cc nL s args Ts own) (hM : MuV l y ws1 rm As D cl tys wc w1) (cw : CallB R s args own index y bytes maxL ret ws1 rm 0 0 n ∧ (Cond.static y).before args s = true)
    (hK : va_K D cl tys s) (hP : va_P D cl ws H) (hD : va_D A ws) (hA : ∀ q, H0.size ≤ q → A q) (isC isR : List Nat) (hs : isC.filterMap (fun i => ws[i]?) = wc) (hC : isC.map (fun i => ws[i]?) = wc.map some) (hnC : va_nd isC = true) (hR : isR.map (fun i => ws[i]?) = wr.map some) (hnR : va_nd isR = true) (hdis : ∀ i ∈ isR, i ∉ isC)
    (hn : As.length = n) (hsize : ls.size = nL) (hst : st0 = As.reverse ++ rest) (hW : (rest.map fun v => v.category).sum ≤ 8) (hdg : decode cc pc = .ok (.invokestatic index, 3)) (hf : cells ≤ R.cells ∧ slots ≤ R.slots) (hS : va_S A H0 H locs)
    (kk : ∀ (H1 : Heap) (locs1 : List Loc), va_P D cl (wr ++ w1) H1 → va_D A (wr ++ w1) → va_S A H0 H1 locs1 → W p l e R s m args below meth c H1 locs1 cells slots Q (F0 m (pc + 3) ls rest)) : W p l e R s m args below meth c H locs cells slots Q (F0 m pc ls st0) := by
  have hFc := va_free (wc := wc) hD hS hA isC hC
  have hDc := hD.sub (ws' := wc) isC hnC hC
  refine va_callv (va_runS S (hM H.size) cw ⟨gz_blM, fun U hU hW => ⟨rfl, by rw [hU], by rw [hU]; exact hP.sub isC hs, va_K.moved hW.alike hK, hDc.weaken (fun _ _ _ _ => trivial)⟩⟩ rfl hn hsize hst (lv_room hW) hdg hf) hS (fun q _ h => hFc q h) hFc (fun u t H1 locs1 ht hvm _ hB hz hk hS1 => ?_)
  obtain ⟨hP1, hD1⟩ := hB
  rw [ht] at hP1
  obtain ⟨hP2, hD2⟩ := va_join (wr := wr) (w1 := w1) hP hD isC isR hC hR hnR hdis hk hFc hP1 hD1
  exact kk H1 locs1 hP2 hD2 hS1
end GC
end
section
/-! Rows pasted from kit/laws/BITS.to-paste (a starting text): lN to 2^64. -/
theorem wb_tb (n : Nat) : (lN n).toBitVec = BitVec.ofNat 64 n := rfl
theorem wb_inj {a b : Int64} (h : a.toBitVec = b.toBitVec) : a = b := Int64.toBitVec_inj.mp h
theorem wb_tn {n : Nat} (h : n < 2 ^ 64) : (lN n).toBitVec.toNat = n := by rw [wb_tb, BitVec.toNat_ofNat, Nat.mod_eq_of_lt h]
theorem wb_of (x : Int64) : ∃ n, n < 2 ^ 64 ∧ x = lN n := ⟨x.toBitVec.toNat, x.toBitVec.isLt, wb_inj (by rw [wb_tb]; simp)⟩
theorem wb_of32 (x : Int32) : ∃ n, n < 2 ^ 32 ∧ x = nI n := ⟨x.toBitVec.toNat, x.toBitVec.isLt, Int32.toBitVec_inj.mp (by show _ = BitVec.ofNat 32 _; simp)⟩
theorem wb_c : ∀ k, k < 64 → ((nI k).toInt64 &&& 63) = lN k := by decide +kernel
theorem wb_cu : ∀ k, k < 64 → ((nI k).toInt64.toUInt64 &&& Int64.toUInt64 63) = UInt64.ofNat k := by decide +kernel
theorem wb_sm : ∀ k, k < 64 → (BitVec.ofNat 64 k).smod 64 = BitVec.ofNat 64 k := by decide +kernel
theorem wb_pw {a b : Nat} (h : a ≤ b) : 2 ^ b = 2 ^ a * 2 ^ (b - a) := by rw [← Nat.pow_add]; congr 1; omega
theorem wb_lt2 {a b : Nat} (h : a < b) : 2 ^ a < 2 ^ b := Nat.pow_lt_pow_right (by decide) h
theorem wb_mod (n : Nat) : lN n = lN (n % 2 ^ 64) := wb_inj (by rw [wb_tb, wb_tb]; apply BitVec.eq_of_toNat_eq; rw [BitVec.toNat_ofNat, BitVec.toNat_ofNat, Nat.mod_mod])
theorem wb_shr {n k : Nat} (hn : n < 2 ^ 64) (hk : k < 64) : ((lN n).toUInt64 >>> ((nI k).toInt64.toUInt64 &&& Int64.toUInt64 63)).toInt64 = lN (n / 2 ^ k) := by
  rw [wb_cu k hk]
  apply wb_inj
  apply BitVec.eq_of_toNat_eq
  show ((lN n).toUInt64 >>> UInt64.ofNat k).toNat = (BitVec.ofNat 64 _).toNat
  have h1 : (UInt64.ofNat k).toNat = k := by
    show (BitVec.ofNat 64 k).toNat = k
    rw [BitVec.toNat_ofNat, Nat.mod_eq_of_lt (by omega)]
  have h2 : (lN n).toUInt64.toNat = n := wb_tn hn
  rw [UInt64.toNat_shiftRight, h1, h2, Nat.mod_eq_of_lt hk, Nat.shiftRight_eq_div_pow, BitVec.toNat_ofNat, Nat.mod_eq_of_lt (Nat.lt_of_le_of_lt (Nat.div_le_self _ _) hn)]
theorem wb_shl (n : Nat) {k : Nat} (hk : k < 64) : lN n <<< ((nI k).toInt64 &&& 63) = lN (n * 2 ^ k) := by
  rw [wb_c k hk]
  apply wb_inj
  rw [Int64.toBitVec_shiftLeft, wb_tb, wb_tb, wb_tb, wb_sm k hk]
  apply BitVec.eq_of_toNat_eq
  rw [BitVec.shiftLeft_eq', BitVec.toNat_shiftLeft, BitVec.toNat_ofNat, BitVec.toNat_ofNat, BitVec.toNat_ofNat, Nat.mod_eq_of_lt (show k < 2 ^ 64 by omega), Nat.shiftLeft_eq, Nat.mul_mod, Nat.mod_mod, ← Nat.mul_mod]
theorem wb_and {a b : Nat} (ha : a < 2 ^ 64) (hb : b < 2 ^ 64) : lN a &&& lN b = lN (a &&& b) := by
  apply wb_inj
  rw [Int64.toBitVec_and, wb_tb, wb_tb, wb_tb]
  apply BitVec.eq_of_toNat_eq
  rw [BitVec.toNat_and, BitVec.toNat_ofNat, BitVec.toNat_ofNat, BitVec.toNat_ofNat, Nat.mod_eq_of_lt ha, Nat.mod_eq_of_lt hb, Nat.mod_eq_of_lt (Nat.and_lt_two_pow _ hb)]
theorem wb_or {a b : Nat} (ha : a < 2 ^ 64) (hb : b < 2 ^ 64) : lN a ||| lN b = lN (a ||| b) := by
  apply wb_inj
  rw [Int64.toBitVec_or, wb_tb, wb_tb, wb_tb]
  apply BitVec.eq_of_toNat_eq
  rw [BitVec.toNat_or, BitVec.toNat_ofNat, BitVec.toNat_ofNat, BitVec.toNat_ofNat, Nat.mod_eq_of_lt ha, Nat.mod_eq_of_lt hb, Nat.mod_eq_of_lt (Nat.or_lt_two_pow ha hb)]
theorem wb_mask {n k : Nat} (hn : n < 2 ^ 64) (hk : k < 64) : lN n &&& lN (2 ^ k - 1) = lN (n % 2 ^ k) := by
  rw [wb_and hn (by have := wb_lt2 hk; omega), Nat.and_two_pow_sub_one_eq_mod]
theorem wb_a1 {n : Nat} (hn : n < 2 ^ 64) : lN n &&& 1 = lN (n % 2) := wb_mask (k := 1) hn (by decide)
theorem wb_bit {n k : Nat} (hn : n < 2 ^ 64) (hk : k < 64) : ((lN n).toUInt64 >>> ((nI k).toInt64.toUInt64 &&& Int64.toUInt64 63)).toInt64 &&& 1 = lN (n / 2 ^ k % 2) := by
  rw [wb_shr hn hk, wb_a1 (Nat.lt_of_le_of_lt (Nat.div_le_self _ _) hn)]
end
section
/-! THE DISK's STATE, as a value, and what its methods do to it: now, committed, before (longs), touched, differs, early commits. -/
abbrev DSt : Type := (Nat → Int64) × (Nat → Int64) × (Nat → Int64) × (Nat → Bool) × (Nat → Bool) × Int32
abbrev dNow (u : DSt) : Nat → Int64 := u.1
abbrev dCom (u : DSt) : Nat → Int64 := u.2.1
abbrev dBef (u : DSt) : Nat → Int64 := u.2.2.1
abbrev dTou (u : DSt) : Nat → Bool := u.2.2.2.1
abbrev dDif (u : DSt) : Nat → Bool := u.2.2.2.2.1
abbrev dEa (u : DSt) : Int32 := u.2.2.2.2.2
abbrev sNow (u : DSt) (f : Nat → Int64) : DSt := (f, u.2)
abbrev sCom (u : DSt) (f : Nat → Int64) : DSt := (u.1, f, u.2.2)
abbrev sBef (u : DSt) (f : Nat → Int64) : DSt := (u.1, u.2.1, f, u.2.2.2)
abbrev sTou (u : DSt) (f : Nat → Bool) : DSt := (u.1, u.2.1, u.2.2.1, f, u.2.2.2.2)
abbrev sDif (u : DSt) (f : Nat → Bool) : DSt := (u.1, u.2.1, u.2.2.1, u.2.2.2.1, f, u.2.2.2.2.2)
abbrev sEa (u : DSt) (x : Int32) : DSt := (u.1, u.2.1, u.2.2.1, u.2.2.2.1, u.2.2.2.2.1, x)
/-- byte p of the longs a -/
def byt (a : Nat → Int64) (p : Nat) : Nat := (a (p / 8)).toBitVec.toNat / 2 ^ (p % 8 * 8) % 256
theorem byt_lt (a : Nat → Int64) (p : Nat) : byt a p < 256 := Nat.mod_lt _ (by decide)
/-- byteAt: 0 where no block is -/
def bN (L : Nat) (a : Nat → Int64) (x : Int32) : Nat := if x < 0 ∨ nI (L * 64) ≤ x then 0 else byt a x.toNatClampNeg
theorem bN_lt (L : Nat) (a : Nat → Int64) (x : Int32) : bN L a x < 256 := by
  unfold bN; split
  · decide
  · exact byt_lt _ _
theorem bN_lo {L : Nat} {a : Nat → Int64} {x : Int32} (h : x < 0) : bN L a x = 0 := by unfold bN; rw [if_pos (Or.inl h)]
theorem bN_hi {L : Nat} {a : Nat → Int64} {q : Nat} (h : L * 64 ≤ q) (hq : q < 2147483648) : bN L a (nI q) = 0 := by unfold bN; rw [if_pos (Or.inr (nI_le h hq))]
theorem bN_in {L : Nat} {a : Nat → Int64} {q : Nat} (h : q < L * 64) (hL : L ≤ 768) : bN L a (nI q) = byt a q := by
  unfold bN
  rw [if_neg, nI_clamp (by omega)]
  rintro (h1 | h1)
  · exact nI_pos (by omega) h1
  · exact nI_ge h (by omega) h1
theorem byt_row (a : Nat → Int64) (q : Nat) : ((((a (q / 8)).toUInt64 >>> ((nI (q % 8 * 8)).toInt64.toUInt64 &&& Int64.toUInt64 63)).toInt64).toInt32 &&& nI 255) = nI (byt a q) := by
  obtain ⟨n, hn, he⟩ := wb_of (a (q / 8))
  have hk : q % 8 * 8 < 64 := by omega
  unfold byt
  rw [he, wb_shr hn hk, lN_i, wb_tn hn, pk_and _ 8 (by decide +kernel)]
  congr 1
  show (BitVec.ofNat 32 _).toNat % 2 ^ 8 = _
  rw [BitVec.toNat_ofNat]
  generalize n / 2 ^ (q % 8 * 8) = z
  omega
/-- pairAt -/
def pN (L : Nat) (a : Nat → Int64) (x : Int32) : Nat := bN L a x + 256 * bN L a (x + nI 1)
theorem pN_lt (L : Nat) (a : Nat → Int64) (x : Int32) : pN L a x < 65536 := by
  have h1 := bN_lt L a x; have h2 := bN_lt L a (x + nI 1); unfold pN; omega
/-- touch -/
def tch (u : DSt) (b : Nat) : DSt := if dTou u b then u else sBef (sTou u (va_up (dTou u) b true)) (va_cpy (dNow u) (dBef u) (b * 8) (b * 8) 8)
theorem tch_t {u : DSt} {b : Nat} (h : dTou u b = true) : tch u b = u := by unfold tch; rw [if_pos h]
theorem tch_f {u : DSt} {b : Nat} (h : dTou u b = false) : tch u b = sBef (sTou u (va_up (dTou u) b true)) (va_cpy (dNow u) (dBef u) (b * 8) (b * 8) 8) := by unfold tch; rw [if_neg (by rw [h]; decide)]
theorem tch_now (u : DSt) (b : Nat) : dNow (tch u b) = dNow u := by unfold tch; split <;> rfl
theorem tch_com (u : DSt) (b : Nat) : dCom (tch u b) = dCom u := by unfold tch; split <;> rfl
/-- one byte of a long -/
def stL (w : Int64) (k : Nat) (v : Int32) : Int64 := (w &&& ((255 <<< ((nI k).toInt64 &&& 63)) ^^^ (-1))) ||| ((v.toInt64 &&& 255) <<< ((nI k).toInt64 &&& 63))
/-- setByte inside the blocks -/
def stB (u : DSt) (q : Nat) (v : Int32) : DSt := sNow (tch u (q / 64)) (va_up (dNow u) (q / 8) (stL (dNow u (q / 8)) (q % 8 * 8) v))
def setB (L : Nat) (u : DSt) (x v : Int32) : DSt := if x < 0 ∨ nI (L * 64) ≤ x then u else stB u x.toNatClampNeg v
theorem setB_lo {L : Nat} {u : DSt} {x v : Int32} (h : x < 0) : setB L u x v = u := by unfold setB; rw [if_pos (Or.inl h)]
theorem setB_hi {L : Nat} {u : DSt} {q : Nat} {v : Int32} (h : L * 64 ≤ q) (hq : q < 2147483648) : setB L u (nI q) v = u := by unfold setB; rw [if_pos (Or.inr (nI_le h hq))]
theorem setB_in {L : Nat} {u : DSt} {q : Nat} {v : Int32} (h : q < L * 64) (hL : L ≤ 768) : setB L u (nI q) v = stB u q v := by
  unfold setB
  rw [if_neg, nI_clamp (by omega)]
  rintro (h1 | h1)
  · exact nI_pos (by omega) h1
  · exact nI_ge h (by omega) h1
/-- setPair -/
def setP (L : Nat) (u : DSt) (x v : Int32) : DSt := setB L (setB L u x v) (x + nI 1) ((v.toUInt32 >>> ((nI 8).toUInt32 &&& Int32.toUInt32 31)).toInt32)
/-- hasBlock -/
def hsB (L : Nat) (x : Int32) : Bool := !decide (x < 0 ∨ nI L ≤ x)
/-- isFree, of a block that there is -/
def frN (a : Nat → Int64) (b : Nat) : Bool := decide ((a (456 + b / 64)).toBitVec.toNat / 2 ^ (b % 64) % 2 = 0)
def frB (L : Nat) (a : Nat → Int64) (x : Int32) : Bool := hsB L x && frN a x.toNatClampNeg
theorem hsB_lo {L : Nat} {x : Int32} (h : x < 0) : hsB L x = false := by simp [hsB, h]
theorem hsB_hi {L q : Nat} (h : L ≤ q) (hq : q < 2147483648) : hsB L (nI q) = false := by simp [hsB, nI_le h hq]
theorem hsB_in {L q : Nat} (h : q < L) (hL : L ≤ 768) : hsB L (nI q) = true := by
  have h1 : ¬ nI q < 0 := nI_pos (by omega)
  have h2 : ¬ nI L ≤ nI q := nI_ge h (by omega)
  simp only [hsB, h1, h2, or_self, decide_false, Bool.not_false]
theorem hsB_of {L : Nat} {x : Int32} (h : hsB L x = true) (hL : L ≤ 768) : ∃ q, q < L ∧ x = nI q := by
  rcases pk_ix x (n := L) (by omega) with h1 | h1 | ⟨j, hj, e⟩
  · rw [hsB_lo h1] at h; cases h
  · simp [hsB, h1] at h
  · exact ⟨j, hj, e⟩
theorem frB_no {L : Nat} {a : Nat → Int64} {x : Int32} (h : hsB L x = false) : frB L a x = false := by simp [frB, h]
theorem frB_in {L : Nat} {a : Nat → Int64} {q : Nat} (h : q < L) (hL : L ≤ 768) : frB L a (nI q) = frN a q := by
  unfold frB; rw [hsB_in h hL, nI_clamp (by omega), Bool.true_and]
theorem frN_row (a : Nat → Int64) (b : Nat) : lg_cmp (((a (456 + b / 64)).toUInt64 >>> ((nI (b % 64)).toInt64.toUInt64 &&& Int64.toUInt64 63)).toInt64 &&& 1) 0 = 0 ↔ frN a b = true := by
  obtain ⟨n, hn, he⟩ := wb_of (a (456 + b / 64))
  have hk : b % 64 < 64 := Nat.mod_lt _ (by decide)
  rw [lg_cmp_eq]
  unfold frN
  rw [he, wb_bit hn hk, wb_tn hn, decide_eq_true_iff]
  have h2 : n / 2 ^ (b % 64) % 2 < 2 := Nat.mod_lt _ (by decide)
  generalize n / 2 ^ (b % 64) % 2 = z at h2
  constructor
  · intro h
    have := congrArg (fun w => w.toBitVec.toNat) h
    simp only [wb_tn (show z < 2 ^ 64 by omega)] at this
    exact this
  · intro h; rw [h]; rfl
/-- leastFree from block b on: n blocks more to look at -/
def lfG (a : Nat → Int64) : Nat → Nat → Int32
  | 0, _ => -1
  | n + 1, b => if frN a b then nI b else lfG a n (b + 1)
def lfr (L : Nat) (a : Nat → Int64) : Int32 := lfG a (L - 59) 59
/-- freeBlocks -/
def fbG (a : Nat → Int64) : Nat → Nat → Nat
  | 0, _ => 0
  | n + 1, b => (if frN a b then 1 else 0) + fbG a n (b + 1)
def fbs (L : Nat) (a : Nat → Int64) : Nat := fbG a (L - 59) 59
theorem fbG_le (a : Nat → Int64) : ∀ n b, fbG a n b ≤ n := by
  intro n
  induction n with
  | zero => intro b; exact Nat.le_refl _
  | succ n ih => intro b; have := ih (b + 1); unfold fbG; split <;> omega
/-- flipMapBit -/
def flp (u : DSt) (b : Nat) : DSt := sNow (tch u (57 + b / 512)) (va_up (dNow u) (456 + b / 64) (dNow u (456 + b / 64) ^^^ (1 <<< ((nI (b % 64)).toInt64 &&& 63))))
/-- the first i longs of block b are 0 -/
def zrB (f : Nat → Int64) (b i : Nat) : Nat → Int64 := fun j => if b * 8 ≤ j ∧ j < b * 8 + i then 0 else f j
theorem zrB_0 (f : Nat → Int64) (b : Nat) : zrB f b 0 = f := by
  funext j; unfold zrB; rw [if_neg (by omega)]
theorem zrB_s (f : Nat → Int64) (b i : Nat) : va_up (zrB f b i) (b * 8 + i) 0 = zrB f b (i + 1) := by
  funext j; unfold va_up zrB
  by_cases h : j = b * 8 + i
  · rw [if_pos h, if_pos (by omega)]
  · rw [if_neg h]
    by_cases h2 : b * 8 ≤ j ∧ j < b * 8 + i
    · rw [if_pos h2, if_pos (by omega)]
    · rw [if_neg h2, if_neg (by omega)]
/-- takeBlock, of a free block -/
def tkN (u : DSt) (b : Nat) : DSt := flp (sNow (tch u b) (zrB (dNow u) b 8)) b
def tkB (L : Nat) (u : DSt) (x : Int32) : DSt := if frB L (dNow u) x then tkN u x.toNatClampNeg else u
/-- block b copied -/
abbrev cpB (f g : Nat → Int64) (b : Nat) : Nat → Int64 := va_cpy f g (b * 8) (b * 8) 8
/-- giveBlockBack, of a taken block -/
def gvN (u : DSt) (b : Nat) : DSt := flp (sNow (tch u b) (cpB (dCom u) (dNow u) b)) b
def gvB (L : Nat) (u : DSt) (x : Int32) : DSt := if hsB L x && !frB L (dNow u) x then gvN u x.toNatClampNeg else u
/-- compare: do the first i longs of block b differ -/
def dfI (f g : Nat → Int64) (b : Nat) : Nat → Bool
  | 0 => false
  | i + 1 => dfI f g b i || !decide (f (b * 8 + i) = g (b * 8 + i))
def cmp (u : DSt) (b : Nat) : DSt := sDif u (va_up (dDif u) b (dfI (dNow u) (dCom u) b 8))
/-- differingBlocks from block b on -/
def dcG (d : Nat → Bool) : Nat → Nat → Nat
  | 0, _ => 0
  | n + 1, b => (if d b then 1 else 0) + dcG d n (b + 1)
def dct (L : Nat) (d : Nat → Bool) : Nat := dcG d L 0
theorem dcG_le (d : Nat → Bool) : ∀ n b, dcG d n b ≤ n := by
  intro n
  induction n with
  | zero => intro b; exact Nat.le_refl _
  | succ n ih => intro b; have := ih (b + 1); unfold dcG; split <;> omega
/-- differingBlock: of n blocks from b on, where 'q' have been passed -/
def dbG (d : Nat → Bool) (x : Int32) : Nat → Nat → Nat → Int32
  | 0, _, _ => -1
  | n + 1, b, q => if d b then (if nI q = x then nI b else dbG d x n (b + 1) (q + 1)) else dbG d x n (b + 1) q
def dbk (L : Nat) (d : Nat → Bool) (x : Int32) : Int32 := dbG d x L 0 0
/-- the loops over all blocks: n blocks from b on -/
def stG : Nat → Nat → DSt → DSt
  | 0, _, u => u
  | n + 1, b, u => stG n (b + 1) (if dTou u b then cmp u b else u)
def unG : Nat → Nat → DSt → DSt
  | 0, _, u => u
  | n + 1, b, u => unG n (b + 1) (if dTou u b then sNow u (cpB (dBef u) (dNow u) b) else u)
def fgG : Nat → Nat → DSt → DSt
  | 0, _, u => u
  | n + 1, b, u => fgG n (b + 1) (sTou u (va_up (dTou u) b false))
/-- makeAlike: now to committed (commit), committed to now (drop) -/
def mcG : Nat → Nat → DSt → DSt
  | 0, _, u => u
  | n + 1, b, u => mcG n (b + 1) (if dDif u b then sDif (sCom u (cpB (dNow u) (dCom u) b)) (va_up (dDif u) b false) else u)
def mdG : Nat → Nat → DSt → DSt
  | 0, _, u => u
  | n + 1, b, u => mdG n (b + 1) (if dDif u b then sDif (sNow u (cpB (dCom u) (dNow u) b)) (va_up (dDif u) b false) else u)
/-- commitWhatWasBefore, one block -/
def cw1 (L : Nat) (u : DSt) (b : Nat) : DSt :=
  let u1 := if dTou u b then sCom u (cpB (dBef u) (dCom u) b) else sCom u (cpB (dNow u) (dCom u) b)
  let u2 := if frN (dNow u1) b then sNow u1 (cpB (dCom u1) (dNow u1) b) else u1
  cmp u2 b
def cwG (L : Nat) : Nat → Nat → DSt → DSt
  | 0, _, u => u
  | n + 1, b, u => cwG L n (b + 1) (cw1 L u b)
def cwb (L : Nat) (u : DSt) : DSt := sEa (cwG L L 0 u) (dEa (cwG L L 0 u) + nI 1)
def fgt (L : Nat) (u : DSt) : DSt := fgG L 0 u
def stl (L : Nat) (u : DSt) : DSt := fgt L (if 24 < dct L (dDif (stG L 0 u)) then cwb L (stG L 0 u) else stG L 0 u)
def und (L : Nat) (u : DSt) : DSt := fgt L (unG L 0 u)
def cmA (L : Nat) (u : DSt) : DSt := mcG L 0 u
def drA (L : Nat) (u : DSt) : DSt := mdG L 0 u
theorem frB_has {L : Nat} {a : Nat → Int64} {x : Int32} (h : frB L a x = true) : hsB L x = true := by
  unfold frB at h; exact (Bool.and_eq_true_iff.mp h).1
theorem tkB_no {L : Nat} {u : DSt} {x : Int32} (h : frB L (dNow u) x = false) : tkB L u x = u := by unfold tkB; rw [if_neg (by rw [h]; decide)]
theorem tkB_in {L : Nat} {u : DSt} {q : Nat} (h : frB L (dNow u) (nI q) = true) (hq : q < 2147483648) : tkB L u (nI q) = tkN u q := by unfold tkB; rw [if_pos h, nI_clamp hq]
theorem gvB_no {L : Nat} {u : DSt} {x : Int32} (h : hsB L x = false) : gvB L u x = u := by unfold gvB; rw [if_neg (by rw [h]; simp)]
theorem gvB_fr {L : Nat} {u : DSt} {x : Int32} (h : frB L (dNow u) x = true) : gvB L u x = u := by unfold gvB; rw [if_neg (by rw [h]; simp)]
theorem gvB_in {L : Nat} {u : DSt} {q : Nat} (h : hsB L (nI q) = true) (h2 : frB L (dNow u) (nI q) = false) (hq : q < 2147483648) : gvB L u (nI q) = gvN u q := by unfold gvB; rw [if_pos (by rw [h, h2]; rfl), nI_clamp hq]
theorem dfI_t1 {f g : Nat → Int64} {b i : Nat} (h : dfI f g b i = true) : zI (dfI f g b (i + 1)) = nI 1 := by
  have : dfI f g b (i + 1) = true := by unfold dfI; rw [h]; rfl
  rw [this]; rfl
theorem dfI_t2 {f g : Nat → Int64} {b i : Nat} (h : ¬ lg_cmp (f (b * 8 + i)) (g (b * 8 + i)) = 0) : zI (dfI f g b (i + 1)) = nI 1 := by
  have h1 : ¬ f (b * 8 + i) = g (b * 8 + i) := fun q => h ((lg_cmp_eq _ _).mpr q)
  have : dfI f g b (i + 1) = true := by unfold dfI; rw [decide_eq_false h1]; simp
  rw [this]; rfl
theorem dfI_f {f g : Nat → Int64} {b i : Nat} (h : dfI f g b i = false) (h2 : lg_cmp (f (b * 8 + i)) (g (b * 8 + i)) = 0) : zI (dfI f g b (i + 1)) = nI 0 := by
  have h1 : f (b * 8 + i) = g (b * 8 + i) := (lg_cmp_eq _ _).mp h2
  have : dfI f g b (i + 1) = false := by unfold dfI; rw [h, decide_eq_true h1]; rfl
  rw [this]; rfl
theorem cw1_tt {L : Nat} {v : DSt} {b : Nat} (h : dTou v b = true) (h2 : frN (dNow v) b = true) : cw1 L v b = cmp (sNow (sCom v (cpB (dBef v) (dCom v) b)) (cpB (cpB (dBef v) (dCom v) b) (dNow v) b)) b := by
  unfold cw1; rw [if_pos h]; dsimp only; rw [if_pos h2]
theorem cw1_tf {L : Nat} {v : DSt} {b : Nat} (h : dTou v b = true) (h2 : frN (dNow v) b = false) : cw1 L v b = cmp (sCom v (cpB (dBef v) (dCom v) b)) b := by
  unfold cw1; rw [if_pos h]; dsimp only; rw [if_neg (by rw [h2]; decide)]
theorem cw1_ft {L : Nat} {v : DSt} {b : Nat} (h : dTou v b = false) (h2 : frN (dNow v) b = true) : cw1 L v b = cmp (sNow (sCom v (cpB (dNow v) (dCom v) b)) (cpB (cpB (dNow v) (dCom v) b) (dNow v) b)) b := by
  unfold cw1; rw [if_neg (by rw [h]; decide)]; dsimp only; rw [if_pos h2]
theorem cw1_ff {L : Nat} {v : DSt} {b : Nat} (h : dTou v b = false) (h2 : frN (dNow v) b = false) : cw1 L v b = cmp (sCom v (cpB (dNow v) (dCom v) b)) b := by
  unfold cw1; rw [if_neg (by rw [h]; decide)]; dsimp only; rw [if_neg (by rw [h2]; decide)]
theorem stG_s (n b : Nat) (u : DSt) : stG (n + 1) b u = stG n (b + 1) (if dTou u b then cmp u b else u) := rfl
theorem unG_s (n b : Nat) (u : DSt) : unG (n + 1) b u = unG n (b + 1) (if dTou u b then sNow u (cpB (dBef u) (dNow u) b) else u) := rfl
theorem mcG_s (n b : Nat) (u : DSt) : mcG (n + 1) b u = mcG n (b + 1) (if dDif u b then sDif (sCom u (cpB (dNow u) (dCom u) b)) (va_up (dDif u) b false) else u) := rfl
theorem mdG_s (n b : Nat) (u : DSt) : mdG (n + 1) b u = mdG n (b + 1) (if dDif u b then sDif (sNow u (cpB (dCom u) (dNow u) b)) (va_up (dDif u) b false) else u) := rfl
theorem cwG_s (L n b : Nat) (u : DSt) : cwG L (n + 1) b u = cwG L n (b + 1) (cw1 L u b) := rfl
end
section
/-! THE CLASS's WORLD: g the addresses (0 disk, 1 now, 2 committed, 3 before, 4 touched, 5 differs, 6 inodes, 7 directories, 8 parents, 9 the object, 10 tape), k the array classes (0 long, 1 boolean, 2 int), L the blocks. -/
abbrev tyC (k : Nat → ClassId) : List (ClassId × FieldType) := [(k 0, .long), (k 1, .boolean), (k 2, .int)]
def wD (g : Nat → Nat) (k : Nat → ClassId) (L : Nat) (u : DSt) : va_W := [(g 0, .inr (1, [.int (nI L), .ref (g 1), .ref (g 2), .ref (g 3), .ref (g 4), .ref (g 5), .int (dEa u)])), (g 1, .inl (k 0, L * 8, .inr (.inl (dNow u)))), (g 2, .inl (k 0, L * 8, .inr (.inl (dCom u)))), (g 3, .inl (k 0, L * 8, .inr (.inl (dBef u)))), (g 4, .inl (k 1, L, .inl (fun j => zI (dTou u j)))), (g 5, .inl (k 1, L, .inl (fun j => zI (dDif u j))))]
def hI (g : Nat → Nat) : va_W := [(g 6, .inr (2, [.ref (g 0)]))]
def wI (g : Nat → Nat) (k : Nat → ClassId) (L : Nat) (u : DSt) : va_W := hI g ++ wD g k L u
def hR (g : Nat → Nat) (k : Nat → ClassId) (f : Nat → Int32) : va_W := [(g 7, .inr (0, [.ref (g 0), .ref (g 6), .ref (g 8)])), (g 8, .inl (k 2, 64, .inl f))]
def wR (g : Nat → Nat) (k : Nat → ClassId) (L : Nat) (u : DSt) (f : Nat → Int32) : va_W := hR g k f ++ wI g k L u
def hT (g : Nat → Nat) (k : Nat → ClassId) (n : Nat) (f : Nat → Int32) : va_W := [(g 9, .inr (3, [.ref (g 0), .ref (g 6), .ref (g 7), .ref (g 10), .int (nI n)])), (g 10, .inl (k 2, 512, .inl f))]
def wT (g : Nat → Nat) (k : Nat → ClassId) (L : Nat) (u : DSt) (f : Nat → Int32) (n : Nat) (tp : Nat → Int32) : va_W := hT g k n tp ++ wR g k L u f
def wA (a0 a1 : Nat) (k : Nat → ClassId) (L : Nat) (f h : Nat → Int64) : va_W := [(a0, .inl (k 0, L * 8, .inr (.inl f))), (a1, .inl (k 0, L * 8, .inr (.inl h)))]
end
section
theorem d_Disk_blocks_0 : decode b_Disk_blocks 0 = .ok (.aload_n 0, 1) := by decide +kernel
theorem d_Disk_blocks_1 : decode b_Disk_blocks 1 = .ok (.getfield 9, 3) := by decide +kernel
theorem d_Disk_blocks_4 : decode b_Disk_blocks 4 = .ok (.ireturn, 1) := by decide +kernel
set_option maxHeartbeats 4000000 in
set_option maxRecDepth 100000 in
theorem c_Disk_blocks (l : Launch) (D : va_G) (g : Nat → Nat) (k : Nat → ClassId) (L : Nat) (hL0 : 96 ≤ L) (hL : L ≤ 768) (u : DSt) : RoI l y_Disk_blocks w_Disk_blocks ({ frames := 0, cells := 0, slots := 0, locals := 0 }) [.ref (g 0)] (RoP D cl5 (tyC k) (wD g k L u)) (nI L) := by
  refine Met.ofW (cc := b_Disk_blocks) (maxL := 1) (ret := (some .int)) (by decide) rfl ?_
  intro p e s m args below meth c s₁ B hml hv
  obtain ⟨rfl, hP, hK⟩ := hv
  have hx := B.exec
  have hb := B.bytes
  have hr := B.returns
  have hts := atoms_spec (ws := w_Disk_blocks) B.pre
  have hTB : ∀ w ∈ lw_tb, w.before _ s = true := fun w h => hts w (List.mem_cons_of_mem _ h)
  have hown : s.vm.findClass R_Disk = some m.cls := findClass_of_methodNamed B.named
  have hlocks := B.notSynchronized
  have hS : va_S (fun _ => False) s.heap s.heap [] := va_S.rf
  have hl := lv_entry ([.ref (g 0)]) (n := 1) (Nat.le_of_ble_eq_true rfl)
  rw [lg_entry_eq]
  generalize (lg_sl ([.ref (g 0)]) ++ List.replicate (1 - (lg_sl ([.ref (g 0)])).length) Slot.unset).toArray = ls at hl ⊢
  have hl : lv_has ls 1 [(0, .ref (g 0))] := hl
  refine lv_aload_n hx hb d_Disk_blocks_0 rfl (lv_at hl 0 rfl) ?_
  refine va_get (D := D) (ci := 1) (v := .int (nI L)) (C := R_Disk) (T := T_Disk) (N := 7) hx hb hTB in_Disk hown hK hP 0 rfl rfl 0 (by decide) (hTB _ k_92) (fun _ h9 => h9) rfl d_Disk_blocks_1 ?_
  exact W.iret (v := nI L) hx hb hr (fun tt9 ht9 hW9 => ⟨⟨_, (), rfl, rfl, trivial⟩, hS.F ht9⟩) hS.2.2 d_Disk_blocks_4
theorem d_Disk_earlyCommits_0 : decode b_Disk_earlyCommits 0 = .ok (.aload_n 0, 1) := by decide +kernel
theorem d_Disk_earlyCommits_1 : decode b_Disk_earlyCommits 1 = .ok (.getfield 32, 3) := by decide +kernel
theorem d_Disk_earlyCommits_4 : decode b_Disk_earlyCommits 4 = .ok (.ireturn, 1) := by decide +kernel
set_option maxHeartbeats 4000000 in
set_option maxRecDepth 100000 in
theorem c_Disk_earlyCommits (l : Launch) (D : va_G) (g : Nat → Nat) (k : Nat → ClassId) (L : Nat) (hL0 : 96 ≤ L) (hL : L ≤ 768) (u : DSt) : RoI l y_Disk_earlyCommits w_Disk_earlyCommits ({ frames := 0, cells := 0, slots := 0, locals := 0 }) [.ref (g 0)] (RoP D cl5 (tyC k) (wD g k L u)) (dEa u) := by
  refine Met.ofW (cc := b_Disk_earlyCommits) (maxL := 1) (ret := (some .int)) (by decide) rfl ?_
  intro p e s m args below meth c s₁ B hml hv
  obtain ⟨rfl, hP, hK⟩ := hv
  have hx := B.exec
  have hb := B.bytes
  have hr := B.returns
  have hts := atoms_spec (ws := w_Disk_earlyCommits) B.pre
  have hTB : ∀ w ∈ lw_tb, w.before _ s = true := fun w h => hts w (List.mem_cons_of_mem _ h)
  have hown : s.vm.findClass R_Disk = some m.cls := findClass_of_methodNamed B.named
  have hlocks := B.notSynchronized
  have hS : va_S (fun _ => False) s.heap s.heap [] := va_S.rf
  have hl := lv_entry ([.ref (g 0)]) (n := 1) (Nat.le_of_ble_eq_true rfl)
  rw [lg_entry_eq]
  generalize (lg_sl ([.ref (g 0)]) ++ List.replicate (1 - (lg_sl ([.ref (g 0)])).length) Slot.unset).toArray = ls at hl ⊢
  have hl : lv_has ls 1 [(0, .ref (g 0))] := hl
  refine lv_aload_n hx hb d_Disk_earlyCommits_0 rfl (lv_at hl 0 rfl) ?_
  refine va_get (D := D) (ci := 1) (v := .int (dEa u)) (C := R_Disk) (T := T_Disk) (N := 7) hx hb hTB in_Disk hown hK hP 0 rfl rfl 6 (by decide) (hTB _ k_98) (fun _ h9 => h9) rfl d_Disk_earlyCommits_1 ?_
  exact W.iret (v := dEa u) hx hb hr (fun tt9 ht9 hW9 => ⟨⟨_, (), rfl, rfl, trivial⟩, hS.F ht9⟩) hS.2.2 d_Disk_earlyCommits_4
theorem d_Disk_hasBlock_0 : decode b_Disk_hasBlock 0 = .ok (.iload_n 1, 1) := by decide +kernel
theorem d_Disk_hasBlock_1 : decode b_Disk_hasBlock 1 = .ok (.ifCond .lt 15, 3) := by decide +kernel
theorem d_Disk_hasBlock_4 : decode b_Disk_hasBlock 4 = .ok (.iload_n 1, 1) := by decide +kernel
theorem d_Disk_hasBlock_5 : decode b_Disk_hasBlock 5 = .ok (.aload_n 0, 1) := by decide +kernel
theorem d_Disk_hasBlock_6 : decode b_Disk_hasBlock 6 = .ok (.getfield 9, 3) := by decide +kernel
theorem d_Disk_hasBlock_9 : decode b_Disk_hasBlock 9 = .ok (.if_icmp .ge 7, 3) := by decide +kernel
theorem d_Disk_hasBlock_12 : decode b_Disk_hasBlock 12 = .ok (.iconst 1, 1) := by decide +kernel
theorem d_Disk_hasBlock_13 : decode b_Disk_hasBlock 13 = .ok (.goto 4, 3) := by decide +kernel
theorem d_Disk_hasBlock_16 : decode b_Disk_hasBlock 16 = .ok (.iconst 0, 1) := by decide +kernel
theorem d_Disk_hasBlock_17 : decode b_Disk_hasBlock 17 = .ok (.ireturn, 1) := by decide +kernel
set_option maxHeartbeats 4000000 in
set_option maxRecDepth 100000 in
theorem c_Disk_hasBlock (l : Launch) (D : va_G) (g : Nat → Nat) (k : Nat → ClassId) (L : Nat) (hL0 : 96 ≤ L) (hL : L ≤ 768) (u : DSt) (x : Int32) : RoI l y_Disk_hasBlock w_Disk_hasBlock ({ frames := 0, cells := 0, slots := 0, locals := 0 }) [.ref (g 0), .int (x)] (RoP D cl5 (tyC k) (wD g k L u)) (zI (hsB L x)) := by
  refine Met.ofW (cc := b_Disk_hasBlock) (maxL := 2) (ret := (some .boolean)) (by decide) rfl ?_
  intro p e s m args below meth c s₁ B hml hv
  obtain ⟨rfl, hP, hK⟩ := hv
  have hx := B.exec
  have hb := B.bytes
  have hr := B.returns
  have hts := atoms_spec (ws := w_Disk_hasBlock) B.pre
  have hTB : ∀ w ∈ lw_tb, w.before _ s = true := fun w h => hts w (List.mem_cons_of_mem _ h)
  have hown : s.vm.findClass R_Disk = some m.cls := findClass_of_methodNamed B.named
  have hlocks := B.notSynchronized
  have hS : va_S (fun _ => False) s.heap s.heap [] := va_S.rf
  have hl := lv_entry ([.ref (g 0), .int (x)]) (n := 2) (Nat.le_of_ble_eq_true rfl)
  rw [lg_entry_eq]
  generalize (lg_sl ([.ref (g 0), .int (x)]) ++ List.replicate (2 - (lg_sl ([.ref (g 0), .int (x)])).length) Slot.unset).toArray = ls at hl ⊢
  have hl : lv_has ls 2 [(0, .ref (g 0)), (1, .int (x))] := hl
  refine lv_iload_n hx hb d_Disk_hasBlock_0 rfl (lv_at hl 1 rfl) ?_
  refine lv_if_lt (tgt := 16) hx hb d_Disk_hasBlock_1 (by decide) (fun h1 => ?_) (fun h1 => ?_)
  · refine lv_iconst (v := nI 0) hx hb d_Disk_hasBlock_16 (by decide +kernel) ?_
    exact W.zret (v := nI 0) (ty := .boolean) hx hb hr (by decide +kernel) (fun tt9 ht9 hW9 => ⟨⟨_, (), rfl, (by first | (rw [hsB_lo h1]; rfl) | (rw [hsB_hi h9 (by omega)]; rfl) | (rw [hsB_in h9 hL]; rfl)), trivial⟩, hS.F ht9⟩) hS.2.2 d_Disk_hasBlock_17
  · obtain ⟨q, hq, rfl⟩ := nI_of h1
    refine lv_iload_n hx hb d_Disk_hasBlock_4 rfl (lv_at hl 1 rfl) ?_
    refine lv_aload_n hx hb d_Disk_hasBlock_5 rfl (lv_at hl 0 rfl) ?_
    refine va_get (D := D) (ci := 1) (v := .int (nI L)) (C := R_Disk) (T := T_Disk) (N := 7) hx hb hTB in_Disk hown hK hP 0 rfl rfl 0 (by decide) (hTB _ k_92) (fun _ h9 => h9) rfl d_Disk_hasBlock_6 ?_
    refine gz_icmp_ge (tgt := 16) hx hb d_Disk_hasBlock_9 (by decide) (by omega) (by omega) (fun h9 => ?_) (fun h9 => ?_)
    · refine lv_iconst (v := nI 0) hx hb d_Disk_hasBlock_16 (by decide +kernel) ?_
      exact W.zret (v := nI 0) (ty := .boolean) hx hb hr (by decide +kernel) (fun tt9 ht9 hW9 => ⟨⟨_, (), rfl, (by first | (rw [hsB_lo h1]; rfl) | (rw [hsB_hi h9 (by omega)]; rfl) | (rw [hsB_in h9 hL]; rfl)), trivial⟩, hS.F ht9⟩) hS.2.2 d_Disk_hasBlock_17
    · refine lv_iconst (v := nI 1) hx hb d_Disk_hasBlock_12 (by decide +kernel) ?_
      refine lv_goto (tgt := 17) hx hb d_Disk_hasBlock_13 (by decide) ?_
      exact W.zret (v := nI 1) (ty := .boolean) hx hb hr (by decide +kernel) (fun tt9 ht9 hW9 => ⟨⟨_, (), rfl, (by first | (rw [hsB_lo h1]; rfl) | (rw [hsB_hi h9 (by omega)]; rfl) | (rw [hsB_in h9 hL]; rfl)), trivial⟩, hS.F ht9⟩) hS.2.2 d_Disk_hasBlock_17
theorem d_Disk_hasByte_0 : decode b_Disk_hasByte 0 = .ok (.aload_n 0, 1) := by decide +kernel
theorem d_Disk_hasByte_1 : decode b_Disk_hasByte 1 = .ok (.iload_n 1, 1) := by decide +kernel
theorem d_Disk_hasByte_2 : decode b_Disk_hasByte 2 = .ok (.invokevirtual 39, 3) := by decide +kernel
theorem d_Disk_hasByte_5 : decode b_Disk_hasByte 5 = .ok (.ifCond .eq 17, 3) := by decide +kernel
theorem d_Disk_hasByte_8 : decode b_Disk_hasByte 8 = .ok (.iload_n 2, 1) := by decide +kernel
theorem d_Disk_hasByte_9 : decode b_Disk_hasByte 9 = .ok (.ifCond .lt 13, 3) := by decide +kernel
theorem d_Disk_hasByte_12 : decode b_Disk_hasByte 12 = .ok (.iload_n 2, 1) := by decide +kernel
theorem d_Disk_hasByte_13 : decode b_Disk_hasByte 13 = .ok (.bipush 64, 2) := by decide +kernel
theorem d_Disk_hasByte_15 : decode b_Disk_hasByte 15 = .ok (.if_icmp .ge 7, 3) := by decide +kernel
theorem d_Disk_hasByte_18 : decode b_Disk_hasByte 18 = .ok (.iconst 1, 1) := by decide +kernel
theorem d_Disk_hasByte_19 : decode b_Disk_hasByte 19 = .ok (.goto 4, 3) := by decide +kernel
theorem d_Disk_hasByte_22 : decode b_Disk_hasByte 22 = .ok (.iconst 0, 1) := by decide +kernel
theorem d_Disk_hasByte_23 : decode b_Disk_hasByte 23 = .ok (.ireturn, 1) := by decide +kernel
set_option maxHeartbeats 4000000 in
set_option maxRecDepth 100000 in
theorem c_Disk_hasByte (l : Launch) (D : va_G) (g : Nat → Nat) (k : Nat → ClassId) (L : Nat) (hL0 : 96 ≤ L) (hL : L ≤ 768) (u : DSt) (x y : Int32) : RoI l y_Disk_hasByte w_Disk_hasByte ({ frames := 1, cells := 0, slots := 0, locals := 21 }) [.ref (g 0), .int (x), .int (y)] (RoP D cl5 (tyC k) (wD g k L u)) (zI (hsB L x && !decide (y < 0 ∨ nI 64 ≤ y))) := by
  refine Met.ofW (cc := b_Disk_hasByte) (maxL := 3) (ret := (some .boolean)) (by decide) rfl ?_
  intro p e s m args below meth c s₁ B hml hv
  obtain ⟨rfl, hP, hK⟩ := hv
  have hx := B.exec
  have hb := B.bytes
  have hr := B.returns
  have hts := atoms_spec (ws := w_Disk_hasByte) B.pre
  have hTB : ∀ w ∈ lw_tb, w.before _ s = true := fun w h => hts w (List.mem_cons_of_mem _ h)
  have hown : s.vm.findClass R_Disk = some m.cls := findClass_of_methodNamed B.named
  have hlocks := B.notSynchronized
  have hS : va_S (fun _ => False) s.heap s.heap [] := va_S.rf
  have hl := lv_entry ([.ref (g 0), .int (x), .int (y)]) (n := 3) (Nat.le_of_ble_eq_true rfl)
  rw [lg_entry_eq]
  generalize (lg_sl ([.ref (g 0), .int (x), .int (y)]) ++ List.replicate (3 - (lg_sl ([.ref (g 0), .int (x), .int (y)])).length) Slot.unset).toArray = ls at hl ⊢
  have hl : lv_has ls 3 [(0, .ref (g 0)), (1, .int (x)), (2, .int (y))] := hl
  refine lv_aload_n hx hb d_Disk_hasByte_0 rfl (lv_at hl 0 rfl) ?_
  refine lv_iload_n hx hb d_Disk_hasByte_1 rfl (lv_at hl 1 rfl) ?_
  refine gz_roV (As := [.int (x)]) (rest := []) (wc := (wD g k L u)) ⟨hx, hb, hml, hown, hTB⟩ (c_Disk_hasBlock l D g k L hL0 hL u x) (cwV 1 hTB (gd_V k_179 k_181 k_4 k_52 k_182) rfl rfl rfl (by decide +kernel) ⟨Nat.le_of_ble_eq_true rfl, Nat.le_of_ble_eq_true rfl⟩) hK hP [0, 1, 2, 3, 4, 5] rfl 0 rfl rfl rfl hl.1 rfl (Nat.le_of_ble_eq_true rfl) d_Disk_hasByte_2 ⟨Nat.zero_le _, Nat.zero_le _⟩ hS (fun H locs hP hS => ?_)
  refine gz_ifz_eq (tgt := 22) hx hb d_Disk_hasByte_5 (by decide) (fun h5 => ?_) (fun h5 => ?_)
  · refine lv_iconst (v := nI 0) hx hb d_Disk_hasByte_22 (by decide +kernel) ?_
    exact W.zret (v := nI 0) (ty := .boolean) hx hb hr (by decide +kernel) (fun tt9 ht9 hW9 => ⟨⟨_, (), rfl, (by first | (rw [h5]; rfl) | (rw [h5]; simp [h9]; rfl) | (rw [h5]; simp [h9, h15]; rfl) | (rw [h5]; simp [zI, h9, h15]; rfl)), trivial⟩, hS.F ht9⟩) hS.2.2 d_Disk_hasByte_23
  · refine lv_iload_n hx hb d_Disk_hasByte_8 rfl (lv_at hl 2 rfl) ?_
    refine lv_if_lt (tgt := 22) hx hb d_Disk_hasByte_9 (by decide) (fun h9 => ?_) (fun h9 => ?_)
    · refine lv_iconst (v := nI 0) hx hb d_Disk_hasByte_22 (by decide +kernel) ?_
      exact W.zret (v := nI 0) (ty := .boolean) hx hb hr (by decide +kernel) (fun tt9 ht9 hW9 => ⟨⟨_, (), rfl, (by first | (rw [h5]; rfl) | (rw [h5]; simp [h9]; rfl) | (rw [h5]; simp [h9, h15]; rfl) | (rw [h5]; simp [zI, h9, h15]; rfl)), trivial⟩, hS.F ht9⟩) hS.2.2 d_Disk_hasByte_23
    · refine lv_iload_n hx hb d_Disk_hasByte_12 rfl (lv_at hl 2 rfl) ?_
      refine lv_bipush (v := nI 64) hx hb d_Disk_hasByte_13 (by decide +kernel) ?_
      refine lv_icmp_ge (tgt := 22) hx hb d_Disk_hasByte_15 (by decide) (fun h15 => ?_) (fun h15 => ?_)
      · refine lv_iconst (v := nI 0) hx hb d_Disk_hasByte_22 (by decide +kernel) ?_
        exact W.zret (v := nI 0) (ty := .boolean) hx hb hr (by decide +kernel) (fun tt9 ht9 hW9 => ⟨⟨_, (), rfl, (by first | (rw [h5]; rfl) | (rw [h5]; simp [h9]; rfl) | (rw [h5]; simp [h9, h15]; rfl) | (rw [h5]; simp [zI, h9, h15]; rfl)), trivial⟩, hS.F ht9⟩) hS.2.2 d_Disk_hasByte_23
      · refine lv_iconst (v := nI 1) hx hb d_Disk_hasByte_18 (by decide +kernel) ?_
        refine lv_goto (tgt := 23) hx hb d_Disk_hasByte_19 (by decide) ?_
        exact W.zret (v := nI 1) (ty := .boolean) hx hb hr (by decide +kernel) (fun tt9 ht9 hW9 => ⟨⟨_, (), rfl, (by first | (rw [h5]; rfl) | (rw [h5]; simp [h9]; rfl) | (rw [h5]; simp [h9, h15]; rfl) | (rw [h5]; simp [zI, h9, h15]; rfl)), trivial⟩, hS.F ht9⟩) hS.2.2 d_Disk_hasByte_23
theorem d_Disk_byteAt_0 : decode b_Disk_byteAt 0 = .ok (.iload_n 1, 1) := by decide +kernel
theorem d_Disk_byteAt_1 : decode b_Disk_byteAt 1 = .ok (.ifCond .lt 14, 3) := by decide +kernel
theorem d_Disk_byteAt_4 : decode b_Disk_byteAt 4 = .ok (.iload_n 1, 1) := by decide +kernel
theorem d_Disk_byteAt_5 : decode b_Disk_byteAt 5 = .ok (.aload_n 0, 1) := by decide +kernel
theorem d_Disk_byteAt_6 : decode b_Disk_byteAt 6 = .ok (.getfield 9, 3) := by decide +kernel
theorem d_Disk_byteAt_9 : decode b_Disk_byteAt 9 = .ok (.bipush 64, 2) := by decide +kernel
theorem d_Disk_byteAt_11 : decode b_Disk_byteAt 11 = .ok (.imul, 1) := by decide +kernel
theorem d_Disk_byteAt_12 : decode b_Disk_byteAt 12 = .ok (.if_icmp .lt 5, 3) := by decide +kernel
theorem d_Disk_byteAt_15 : decode b_Disk_byteAt 15 = .ok (.iconst 0, 1) := by decide +kernel
theorem d_Disk_byteAt_16 : decode b_Disk_byteAt 16 = .ok (.ireturn, 1) := by decide +kernel
theorem d_Disk_byteAt_17 : decode b_Disk_byteAt 17 = .ok (.aload_n 0, 1) := by decide +kernel
theorem d_Disk_byteAt_18 : decode b_Disk_byteAt 18 = .ok (.getfield 15, 3) := by decide +kernel
theorem d_Disk_byteAt_21 : decode b_Disk_byteAt 21 = .ok (.iload_n 1, 1) := by decide +kernel
theorem d_Disk_byteAt_22 : decode b_Disk_byteAt 22 = .ok (.bipush 8, 2) := by decide +kernel
theorem d_Disk_byteAt_24 : decode b_Disk_byteAt 24 = .ok (.idiv, 1) := by decide +kernel
theorem d_Disk_byteAt_25 : decode b_Disk_byteAt 25 = .ok (.laload, 1) := by decide +kernel
theorem d_Disk_byteAt_26 : decode b_Disk_byteAt 26 = .ok (.iload_n 1, 1) := by decide +kernel
theorem d_Disk_byteAt_27 : decode b_Disk_byteAt 27 = .ok (.bipush 8, 2) := by decide +kernel
theorem d_Disk_byteAt_29 : decode b_Disk_byteAt 29 = .ok (.irem, 1) := by decide +kernel
theorem d_Disk_byteAt_30 : decode b_Disk_byteAt 30 = .ok (.bipush 8, 2) := by decide +kernel
theorem d_Disk_byteAt_32 : decode b_Disk_byteAt 32 = .ok (.imul, 1) := by decide +kernel
theorem d_Disk_byteAt_33 : decode b_Disk_byteAt 33 = .ok (.lushr, 1) := by decide +kernel
theorem d_Disk_byteAt_34 : decode b_Disk_byteAt 34 = .ok (.l2i, 1) := by decide +kernel
theorem d_Disk_byteAt_35 : decode b_Disk_byteAt 35 = .ok (.sipush 255, 3) := by decide +kernel
theorem d_Disk_byteAt_38 : decode b_Disk_byteAt 38 = .ok (.iand, 1) := by decide +kernel
theorem d_Disk_byteAt_39 : decode b_Disk_byteAt 39 = .ok (.ireturn, 1) := by decide +kernel
set_option maxHeartbeats 4000000 in
set_option maxRecDepth 100000 in
theorem c_Disk_byteAt (l : Launch) (D : va_G) (g : Nat → Nat) (k : Nat → ClassId) (L : Nat) (hL0 : 96 ≤ L) (hL : L ≤ 768) (u : DSt) (x : Int32) : RoI l y_Disk_byteAt w_Disk_byteAt ({ frames := 0, cells := 0, slots := 0, locals := 0 }) [.ref (g 0), .int (x)] (RoP D cl5 (tyC k) (wD g k L u)) (nI (bN L (dNow u) x)) := by
  refine Met.ofW (cc := b_Disk_byteAt) (maxL := 2) (ret := (some .int)) (by decide) rfl ?_
  intro p e s m args below meth c s₁ B hml hv
  obtain ⟨rfl, hP, hK⟩ := hv
  have hx := B.exec
  have hb := B.bytes
  have hr := B.returns
  have hts := atoms_spec (ws := w_Disk_byteAt) B.pre
  have hTB : ∀ w ∈ lw_tb, w.before _ s = true := fun w h => hts w (List.mem_cons_of_mem _ h)
  have hown : s.vm.findClass R_Disk = some m.cls := findClass_of_methodNamed B.named
  have hlocks := B.notSynchronized
  have hS : va_S (fun _ => False) s.heap s.heap [] := va_S.rf
  have hl := lv_entry ([.ref (g 0), .int (x)]) (n := 2) (Nat.le_of_ble_eq_true rfl)
  rw [lg_entry_eq]
  generalize (lg_sl ([.ref (g 0), .int (x)]) ++ List.replicate (2 - (lg_sl ([.ref (g 0), .int (x)])).length) Slot.unset).toArray = ls at hl ⊢
  have hl : lv_has ls 2 [(0, .ref (g 0)), (1, .int (x))] := hl
  refine lv_iload_n hx hb d_Disk_byteAt_0 rfl (lv_at hl 1 rfl) ?_
  refine lv_if_lt (tgt := 15) hx hb d_Disk_byteAt_1 (by decide) (fun h1 => ?_) (fun h1 => ?_)
  · refine lv_iconst (v := nI 0) hx hb d_Disk_byteAt_15 (by decide +kernel) ?_
    exact W.iret (v := nI 0) hx hb hr (fun tt9 ht9 hW9 => ⟨⟨_, (), rfl, (by rw [bN_lo h1]), trivial⟩, hS.F ht9⟩) hS.2.2 d_Disk_byteAt_16
  · obtain ⟨q, hq, rfl⟩ := nI_of h1
    refine lv_iload_n hx hb d_Disk_byteAt_4 rfl (lv_at hl 1 rfl) ?_
    refine lv_aload_n hx hb d_Disk_byteAt_5 rfl (lv_at hl 0 rfl) ?_
    refine va_get (D := D) (ci := 1) (v := .int (nI L)) (C := R_Disk) (T := T_Disk) (N := 7) hx hb hTB in_Disk hown hK hP 0 rfl rfl 0 (by decide) (hTB _ k_92) (fun _ h9 => h9) rfl d_Disk_byteAt_6 ?_
    refine lv_bipush (v := nI 64) hx hb d_Disk_byteAt_9 (by decide +kernel) ?_
    refine gz_imul hx hb d_Disk_byteAt_11 ?_
    refine gz_icmp_lt (tgt := 17) hx hb d_Disk_byteAt_12 (by decide) (by omega) (by omega) (fun h12 => ?_) (fun h12 => ?_)
    · refine lv_aload_n hx hb d_Disk_byteAt_17 rfl (lv_at hl 0 rfl) ?_
      refine va_get (D := D) (ci := 1) (v := .ref (g 1)) (C := R_Disk) (T := T_Disk) (N := 7) hx hb hTB in_Disk hown hK hP 0 rfl rfl 1 (by decide) (hTB _ k_93) (fun _ h9 => h9) rfl d_Disk_byteAt_18 ?_
      refine lv_iload_n hx hb d_Disk_byteAt_21 rfl (lv_at hl 1 rfl) ?_
      refine lv_bipush (v := nI 8) hx hb d_Disk_byteAt_22 (by decide +kernel) ?_
      refine gz_idiv hx hb d_Disk_byteAt_24 (by omega) (by decide) (by decide) ?_
      refine gz_lald hx hb hK hP 1 0 rfl rfl (i := q / 8) (by omega) (by omega) d_Disk_byteAt_25 ?_
      refine lv_iload_n hx hb d_Disk_byteAt_26 rfl (lv_at hl 1 rfl) ?_
      refine lv_bipush (v := nI 8) hx hb d_Disk_byteAt_27 (by decide +kernel) ?_
      refine gz_irem hx hb d_Disk_byteAt_29 (by omega) (by decide) (by decide) ?_
      refine lv_bipush (v := nI 8) hx hb d_Disk_byteAt_30 (by decide +kernel) ?_
      refine gz_imul hx hb d_Disk_byteAt_32 ?_
      refine lv_lushr hx hb d_Disk_byteAt_33 rfl ?_
      refine lv_l2i hx hb d_Disk_byteAt_34 rfl ?_
      refine lv_sipush (v := nI 255) hx hb d_Disk_byteAt_35 (by decide +kernel) ?_
      refine lv_iand hx hb d_Disk_byteAt_38 ?_
      exact W.iret (v := ((((dNow u (q / 8)).toUInt64 >>> ((nI ((q % 8) * 8)).toInt64.toUInt64 &&& Int64.toUInt64 63)).toInt64).toInt32) &&& (nI 255)) hx hb hr (fun tt9 ht9 hW9 => ⟨⟨_, (), rfl, (by rw [bN_in h12 hL]; exact byt_row _ _), trivial⟩, hS.F ht9⟩) hS.2.2 d_Disk_byteAt_39
    · refine lv_iconst (v := nI 0) hx hb d_Disk_byteAt_15 (by decide +kernel) ?_
      exact W.iret (v := nI 0) hx hb hr (fun tt9 ht9 hW9 => ⟨⟨_, (), rfl, (by rw [bN_hi h12 (by omega)]), trivial⟩, hS.F ht9⟩) hS.2.2 d_Disk_byteAt_16
theorem d_Disk_committedByteAt_0 : decode b_Disk_committedByteAt 0 = .ok (.iload_n 1, 1) := by decide +kernel
theorem d_Disk_committedByteAt_1 : decode b_Disk_committedByteAt 1 = .ok (.ifCond .lt 14, 3) := by decide +kernel
theorem d_Disk_committedByteAt_4 : decode b_Disk_committedByteAt 4 = .ok (.iload_n 1, 1) := by decide +kernel
theorem d_Disk_committedByteAt_5 : decode b_Disk_committedByteAt 5 = .ok (.aload_n 0, 1) := by decide +kernel
theorem d_Disk_committedByteAt_6 : decode b_Disk_committedByteAt 6 = .ok (.getfield 9, 3) := by decide +kernel
theorem d_Disk_committedByteAt_9 : decode b_Disk_committedByteAt 9 = .ok (.bipush 64, 2) := by decide +kernel
theorem d_Disk_committedByteAt_11 : decode b_Disk_committedByteAt 11 = .ok (.imul, 1) := by decide +kernel
theorem d_Disk_committedByteAt_12 : decode b_Disk_committedByteAt 12 = .ok (.if_icmp .lt 5, 3) := by decide +kernel
theorem d_Disk_committedByteAt_15 : decode b_Disk_committedByteAt 15 = .ok (.iconst 0, 1) := by decide +kernel
theorem d_Disk_committedByteAt_16 : decode b_Disk_committedByteAt 16 = .ok (.ireturn, 1) := by decide +kernel
theorem d_Disk_committedByteAt_17 : decode b_Disk_committedByteAt 17 = .ok (.aload_n 0, 1) := by decide +kernel
theorem d_Disk_committedByteAt_18 : decode b_Disk_committedByteAt 18 = .ok (.getfield 19, 3) := by decide +kernel
theorem d_Disk_committedByteAt_21 : decode b_Disk_committedByteAt 21 = .ok (.iload_n 1, 1) := by decide +kernel
theorem d_Disk_committedByteAt_22 : decode b_Disk_committedByteAt 22 = .ok (.bipush 8, 2) := by decide +kernel
theorem d_Disk_committedByteAt_24 : decode b_Disk_committedByteAt 24 = .ok (.idiv, 1) := by decide +kernel
theorem d_Disk_committedByteAt_25 : decode b_Disk_committedByteAt 25 = .ok (.laload, 1) := by decide +kernel
theorem d_Disk_committedByteAt_26 : decode b_Disk_committedByteAt 26 = .ok (.iload_n 1, 1) := by decide +kernel
theorem d_Disk_committedByteAt_27 : decode b_Disk_committedByteAt 27 = .ok (.bipush 8, 2) := by decide +kernel
theorem d_Disk_committedByteAt_29 : decode b_Disk_committedByteAt 29 = .ok (.irem, 1) := by decide +kernel
theorem d_Disk_committedByteAt_30 : decode b_Disk_committedByteAt 30 = .ok (.bipush 8, 2) := by decide +kernel
theorem d_Disk_committedByteAt_32 : decode b_Disk_committedByteAt 32 = .ok (.imul, 1) := by decide +kernel
theorem d_Disk_committedByteAt_33 : decode b_Disk_committedByteAt 33 = .ok (.lushr, 1) := by decide +kernel
theorem d_Disk_committedByteAt_34 : decode b_Disk_committedByteAt 34 = .ok (.l2i, 1) := by decide +kernel
theorem d_Disk_committedByteAt_35 : decode b_Disk_committedByteAt 35 = .ok (.sipush 255, 3) := by decide +kernel
theorem d_Disk_committedByteAt_38 : decode b_Disk_committedByteAt 38 = .ok (.iand, 1) := by decide +kernel
theorem d_Disk_committedByteAt_39 : decode b_Disk_committedByteAt 39 = .ok (.ireturn, 1) := by decide +kernel
set_option maxHeartbeats 4000000 in
set_option maxRecDepth 100000 in
theorem c_Disk_committedByteAt (l : Launch) (D : va_G) (g : Nat → Nat) (k : Nat → ClassId) (L : Nat) (hL0 : 96 ≤ L) (hL : L ≤ 768) (u : DSt) (x : Int32) : RoI l y_Disk_committedByteAt w_Disk_committedByteAt ({ frames := 0, cells := 0, slots := 0, locals := 0 }) [.ref (g 0), .int (x)] (RoP D cl5 (tyC k) (wD g k L u)) (nI (bN L (dCom u) x)) := by
  refine Met.ofW (cc := b_Disk_committedByteAt) (maxL := 2) (ret := (some .int)) (by decide) rfl ?_
  intro p e s m args below meth c s₁ B hml hv
  obtain ⟨rfl, hP, hK⟩ := hv
  have hx := B.exec
  have hb := B.bytes
  have hr := B.returns
  have hts := atoms_spec (ws := w_Disk_committedByteAt) B.pre
  have hTB : ∀ w ∈ lw_tb, w.before _ s = true := fun w h => hts w (List.mem_cons_of_mem _ h)
  have hown : s.vm.findClass R_Disk = some m.cls := findClass_of_methodNamed B.named
  have hlocks := B.notSynchronized
  have hS : va_S (fun _ => False) s.heap s.heap [] := va_S.rf
  have hl := lv_entry ([.ref (g 0), .int (x)]) (n := 2) (Nat.le_of_ble_eq_true rfl)
  rw [lg_entry_eq]
  generalize (lg_sl ([.ref (g 0), .int (x)]) ++ List.replicate (2 - (lg_sl ([.ref (g 0), .int (x)])).length) Slot.unset).toArray = ls at hl ⊢
  have hl : lv_has ls 2 [(0, .ref (g 0)), (1, .int (x))] := hl
  refine lv_iload_n hx hb d_Disk_committedByteAt_0 rfl (lv_at hl 1 rfl) ?_
  refine lv_if_lt (tgt := 15) hx hb d_Disk_committedByteAt_1 (by decide) (fun h1 => ?_) (fun h1 => ?_)
  · refine lv_iconst (v := nI 0) hx hb d_Disk_committedByteAt_15 (by decide +kernel) ?_
    exact W.iret (v := nI 0) hx hb hr (fun tt9 ht9 hW9 => ⟨⟨_, (), rfl, (by rw [bN_lo h1]), trivial⟩, hS.F ht9⟩) hS.2.2 d_Disk_committedByteAt_16
  · obtain ⟨q, hq, rfl⟩ := nI_of h1
    refine lv_iload_n hx hb d_Disk_committedByteAt_4 rfl (lv_at hl 1 rfl) ?_
    refine lv_aload_n hx hb d_Disk_committedByteAt_5 rfl (lv_at hl 0 rfl) ?_
    refine va_get (D := D) (ci := 1) (v := .int (nI L)) (C := R_Disk) (T := T_Disk) (N := 7) hx hb hTB in_Disk hown hK hP 0 rfl rfl 0 (by decide) (hTB _ k_92) (fun _ h9 => h9) rfl d_Disk_committedByteAt_6 ?_
    refine lv_bipush (v := nI 64) hx hb d_Disk_committedByteAt_9 (by decide +kernel) ?_
    refine gz_imul hx hb d_Disk_committedByteAt_11 ?_
    refine gz_icmp_lt (tgt := 17) hx hb d_Disk_committedByteAt_12 (by decide) (by omega) (by omega) (fun h12 => ?_) (fun h12 => ?_)
    · refine lv_aload_n hx hb d_Disk_committedByteAt_17 rfl (lv_at hl 0 rfl) ?_
      refine va_get (D := D) (ci := 1) (v := .ref (g 2)) (C := R_Disk) (T := T_Disk) (N := 7) hx hb hTB in_Disk hown hK hP 0 rfl rfl 2 (by decide) (hTB _ k_94) (fun _ h9 => h9) rfl d_Disk_committedByteAt_18 ?_
      refine lv_iload_n hx hb d_Disk_committedByteAt_21 rfl (lv_at hl 1 rfl) ?_
      refine lv_bipush (v := nI 8) hx hb d_Disk_committedByteAt_22 (by decide +kernel) ?_
      refine gz_idiv hx hb d_Disk_committedByteAt_24 (by omega) (by decide) (by decide) ?_
      refine gz_lald hx hb hK hP 2 0 rfl rfl (i := q / 8) (by omega) (by omega) d_Disk_committedByteAt_25 ?_
      refine lv_iload_n hx hb d_Disk_committedByteAt_26 rfl (lv_at hl 1 rfl) ?_
      refine lv_bipush (v := nI 8) hx hb d_Disk_committedByteAt_27 (by decide +kernel) ?_
      refine gz_irem hx hb d_Disk_committedByteAt_29 (by omega) (by decide) (by decide) ?_
      refine lv_bipush (v := nI 8) hx hb d_Disk_committedByteAt_30 (by decide +kernel) ?_
      refine gz_imul hx hb d_Disk_committedByteAt_32 ?_
      refine lv_lushr hx hb d_Disk_committedByteAt_33 rfl ?_
      refine lv_l2i hx hb d_Disk_committedByteAt_34 rfl ?_
      refine lv_sipush (v := nI 255) hx hb d_Disk_committedByteAt_35 (by decide +kernel) ?_
      refine lv_iand hx hb d_Disk_committedByteAt_38 ?_
      exact W.iret (v := ((((dCom u (q / 8)).toUInt64 >>> ((nI ((q % 8) * 8)).toInt64.toUInt64 &&& Int64.toUInt64 63)).toInt64).toInt32) &&& (nI 255)) hx hb hr (fun tt9 ht9 hW9 => ⟨⟨_, (), rfl, (by rw [bN_in h12 hL]; exact byt_row _ _), trivial⟩, hS.F ht9⟩) hS.2.2 d_Disk_committedByteAt_39
    · refine lv_iconst (v := nI 0) hx hb d_Disk_committedByteAt_15 (by decide +kernel) ?_
      exact W.iret (v := nI 0) hx hb hr (fun tt9 ht9 hW9 => ⟨⟨_, (), rfl, (by rw [bN_hi h12 (by omega)]), trivial⟩, hS.F ht9⟩) hS.2.2 d_Disk_committedByteAt_16
theorem d_Disk_pairAt_0 : decode b_Disk_pairAt 0 = .ok (.aload_n 0, 1) := by decide +kernel
theorem d_Disk_pairAt_1 : decode b_Disk_pairAt 1 = .ok (.iload_n 1, 1) := by decide +kernel
theorem d_Disk_pairAt_2 : decode b_Disk_pairAt 2 = .ok (.invokevirtual 43, 3) := by decide +kernel
theorem d_Disk_pairAt_5 : decode b_Disk_pairAt 5 = .ok (.sipush 256, 3) := by decide +kernel
theorem d_Disk_pairAt_8 : decode b_Disk_pairAt 8 = .ok (.aload_n 0, 1) := by decide +kernel
theorem d_Disk_pairAt_9 : decode b_Disk_pairAt 9 = .ok (.iload_n 1, 1) := by decide +kernel
theorem d_Disk_pairAt_10 : decode b_Disk_pairAt 10 = .ok (.iconst 1, 1) := by decide +kernel
theorem d_Disk_pairAt_11 : decode b_Disk_pairAt 11 = .ok (.iadd, 1) := by decide +kernel
theorem d_Disk_pairAt_12 : decode b_Disk_pairAt 12 = .ok (.invokevirtual 43, 3) := by decide +kernel
theorem d_Disk_pairAt_15 : decode b_Disk_pairAt 15 = .ok (.imul, 1) := by decide +kernel
theorem d_Disk_pairAt_16 : decode b_Disk_pairAt 16 = .ok (.iadd, 1) := by decide +kernel
theorem d_Disk_pairAt_17 : decode b_Disk_pairAt 17 = .ok (.ireturn, 1) := by decide +kernel
set_option maxHeartbeats 4000000 in
set_option maxRecDepth 100000 in
theorem c_Disk_pairAt (l : Launch) (D : va_G) (g : Nat → Nat) (k : Nat → ClassId) (L : Nat) (hL0 : 96 ≤ L) (hL : L ≤ 768) (u : DSt) (x : Int32) : RoI l y_Disk_pairAt w_Disk_pairAt ({ frames := 1, cells := 0, slots := 0, locals := 21 }) [.ref (g 0), .int (x)] (RoP D cl5 (tyC k) (wD g k L u)) (nI (pN L (dNow u) x)) := by
  refine Met.ofW (cc := b_Disk_pairAt) (maxL := 2) (ret := (some .int)) (by decide) rfl ?_
  intro p e s m args below meth c s₁ B hml hv
  obtain ⟨rfl, hP, hK⟩ := hv
  have hx := B.exec
  have hb := B.bytes
  have hr := B.returns
  have hts := atoms_spec (ws := w_Disk_pairAt) B.pre
  have hTB : ∀ w ∈ lw_tb, w.before _ s = true := fun w h => hts w (List.mem_cons_of_mem _ h)
  have hown : s.vm.findClass R_Disk = some m.cls := findClass_of_methodNamed B.named
  have hlocks := B.notSynchronized
  have hS : va_S (fun _ => False) s.heap s.heap [] := va_S.rf
  have hl := lv_entry ([.ref (g 0), .int (x)]) (n := 2) (Nat.le_of_ble_eq_true rfl)
  rw [lg_entry_eq]
  generalize (lg_sl ([.ref (g 0), .int (x)]) ++ List.replicate (2 - (lg_sl ([.ref (g 0), .int (x)])).length) Slot.unset).toArray = ls at hl ⊢
  have hl : lv_has ls 2 [(0, .ref (g 0)), (1, .int (x))] := hl
  refine lv_aload_n hx hb d_Disk_pairAt_0 rfl (lv_at hl 0 rfl) ?_
  refine lv_iload_n hx hb d_Disk_pairAt_1 rfl (lv_at hl 1 rfl) ?_
  refine gz_roV (As := [.int (x)]) (rest := []) (wc := (wD g k L u)) ⟨hx, hb, hml, hown, hTB⟩ (c_Disk_byteAt l D g k L hL0 hL u x) (cwV 1 hTB (gd_V k_360 k_345 k_346 k_52 k_347) rfl rfl rfl (by decide +kernel) ⟨Nat.le_of_ble_eq_true rfl, Nat.le_of_ble_eq_true rfl⟩) hK hP [0, 1, 2, 3, 4, 5] rfl 0 rfl rfl rfl hl.1 rfl (Nat.le_of_ble_eq_true rfl) d_Disk_pairAt_2 ⟨Nat.zero_le _, Nat.zero_le _⟩ hS (fun H locs hP hS => ?_)
  have := bN_lt L (dNow u) x
  refine lv_sipush (v := nI 256) hx hb d_Disk_pairAt_5 (by decide +kernel) ?_
  refine lv_aload_n hx hb d_Disk_pairAt_8 rfl (lv_at hl 0 rfl) ?_
  refine lv_iload_n hx hb d_Disk_pairAt_9 rfl (lv_at hl 1 rfl) ?_
  refine lv_iconst (v := nI 1) hx hb d_Disk_pairAt_10 (by decide +kernel) ?_
  refine lv_iadd hx hb d_Disk_pairAt_11 ?_
  refine gz_roV (As := [.int (x + (nI 1))]) (rest := [.int (nI 256), .int (nI (bN L (dNow u) x))]) (wc := (wD g k L u)) ⟨hx, hb, hml, hown, hTB⟩ (c_Disk_byteAt l D g k L hL0 hL u (x + (nI 1))) (cwV 1 hTB (gd_V k_360 k_345 k_346 k_52 k_347) rfl rfl rfl (by decide +kernel) ⟨Nat.le_of_ble_eq_true rfl, Nat.le_of_ble_eq_true rfl⟩) hK hP [0, 1, 2, 3, 4, 5] rfl 0 rfl rfl rfl hl.1 rfl (Nat.le_of_ble_eq_true rfl) d_Disk_pairAt_12 ⟨Nat.zero_le _, Nat.zero_le _⟩ hS (fun H locs hP hS => ?_)
  have := bN_lt L (dNow u) (x + (nI 1))
  refine gz_imul hx hb d_Disk_pairAt_15 ?_
  refine gz_iadd hx hb d_Disk_pairAt_16 ?_
  exact W.iret (v := nI ((bN L (dNow u) x) + (256 * (bN L (dNow u) (x + (nI 1)))))) hx hb hr (fun tt9 ht9 hW9 => ⟨⟨_, (), rfl, rfl, trivial⟩, hS.F ht9⟩) hS.2.2 d_Disk_pairAt_17
theorem d_Disk_mapLongOf_0 : decode b_Disk_mapLongOf 0 = .ok (.sipush 456, 3) := by decide +kernel
theorem d_Disk_mapLongOf_3 : decode b_Disk_mapLongOf 3 = .ok (.iload_n 0, 1) := by decide +kernel
theorem d_Disk_mapLongOf_4 : decode b_Disk_mapLongOf 4 = .ok (.bipush 64, 2) := by decide +kernel
theorem d_Disk_mapLongOf_6 : decode b_Disk_mapLongOf 6 = .ok (.idiv, 1) := by decide +kernel
theorem d_Disk_mapLongOf_7 : decode b_Disk_mapLongOf 7 = .ok (.iadd, 1) := by decide +kernel
theorem d_Disk_mapLongOf_8 : decode b_Disk_mapLongOf 8 = .ok (.ireturn, 1) := by decide +kernel
set_option maxHeartbeats 4000000 in
set_option maxRecDepth 100000 in
theorem c_Disk_mapLongOf (l : Launch) (b : Nat) (hb0 : b < 2147483648) : RoI l y_Disk_mapLongOf w_Disk_mapLongOf ({ frames := 0, cells := 0, slots := 0, locals := 0 }) [.int (nI b)] (fun _ => True) (nI (456 + b / 64)) := by
  refine Met.ofW (cc := b_Disk_mapLongOf) (maxL := 1) (ret := (some .int)) (by decide) rfl ?_
  intro p e s m args below meth c s₁ B hml hv
  obtain ⟨rfl, -⟩ := hv
  have hx := B.exec
  have hb := B.bytes
  have hr := B.returns
  have hts := atoms_spec (ws := w_Disk_mapLongOf) B.pre
  have hTB : ∀ w ∈ lw_tb, w.before _ s = true := fun w h => hts w (List.mem_cons_of_mem _ h)
  have hown : s.vm.findClass R_Disk = some m.cls := findClass_of_methodNamed B.named
  have hlocks := B.notSynchronized
  have hS : va_S (fun _ => False) s.heap s.heap [] := va_S.rf
  have hP : va_P (fun _ => 0, fun _ _ => 0) cl5 [] s.heap := fun k q h => by simp at h
  have hl := lv_entry ([.int (nI b)]) (n := 1) (Nat.le_of_ble_eq_true rfl)
  rw [lg_entry_eq]
  generalize (lg_sl ([.int (nI b)]) ++ List.replicate (1 - (lg_sl ([.int (nI b)])).length) Slot.unset).toArray = ls at hl ⊢
  have hl : lv_has ls 1 [(0, .int (nI b))] := hl
  refine lv_sipush (v := nI 456) hx hb d_Disk_mapLongOf_0 (by decide +kernel) ?_
  refine lv_iload_n hx hb d_Disk_mapLongOf_3 rfl (lv_at hl 0 rfl) ?_
  refine lv_bipush (v := nI 64) hx hb d_Disk_mapLongOf_4 (by decide +kernel) ?_
  refine gz_idiv hx hb d_Disk_mapLongOf_6 (by omega) (by decide) (by decide) ?_
  refine gz_iadd hx hb d_Disk_mapLongOf_7 ?_
  exact W.iret (v := nI (456 + (b / 64))) hx hb hr (fun tt9 ht9 hW9 => ⟨⟨_, (), rfl, rfl, trivial⟩, hS.F ht9⟩) hS.2.2 d_Disk_mapLongOf_8
theorem d_Disk_isFree_0 : decode b_Disk_isFree 0 = .ok (.aload_n 0, 1) := by decide +kernel
theorem d_Disk_isFree_1 : decode b_Disk_isFree 1 = .ok (.iload_n 1, 1) := by decide +kernel
theorem d_Disk_isFree_2 : decode b_Disk_isFree 2 = .ok (.invokevirtual 39, 3) := by decide +kernel
theorem d_Disk_isFree_5 : decode b_Disk_isFree 5 = .ok (.ifCond .eq 28, 3) := by decide +kernel
theorem d_Disk_isFree_8 : decode b_Disk_isFree 8 = .ok (.aload_n 0, 1) := by decide +kernel
theorem d_Disk_isFree_9 : decode b_Disk_isFree 9 = .ok (.getfield 15, 3) := by decide +kernel
theorem d_Disk_isFree_12 : decode b_Disk_isFree 12 = .ok (.iload_n 1, 1) := by decide +kernel
theorem d_Disk_isFree_13 : decode b_Disk_isFree 13 = .ok (.invokestatic 58, 3) := by decide +kernel
theorem d_Disk_isFree_16 : decode b_Disk_isFree 16 = .ok (.laload, 1) := by decide +kernel
theorem d_Disk_isFree_17 : decode b_Disk_isFree 17 = .ok (.iload_n 1, 1) := by decide +kernel
theorem d_Disk_isFree_18 : decode b_Disk_isFree 18 = .ok (.bipush 64, 2) := by decide +kernel
theorem d_Disk_isFree_20 : decode b_Disk_isFree 20 = .ok (.irem, 1) := by decide +kernel
theorem d_Disk_isFree_21 : decode b_Disk_isFree 21 = .ok (.lushr, 1) := by decide +kernel
theorem d_Disk_isFree_22 : decode b_Disk_isFree 22 = .ok (.lconst 1, 1) := by decide +kernel
theorem d_Disk_isFree_23 : decode b_Disk_isFree 23 = .ok (.land, 1) := by decide +kernel
theorem d_Disk_isFree_24 : decode b_Disk_isFree 24 = .ok (.lconst 0, 1) := by decide +kernel
theorem d_Disk_isFree_25 : decode b_Disk_isFree 25 = .ok (.lcmp, 1) := by decide +kernel
theorem d_Disk_isFree_26 : decode b_Disk_isFree 26 = .ok (.ifCond .ne 7, 3) := by decide +kernel
theorem d_Disk_isFree_29 : decode b_Disk_isFree 29 = .ok (.iconst 1, 1) := by decide +kernel
theorem d_Disk_isFree_30 : decode b_Disk_isFree 30 = .ok (.goto 4, 3) := by decide +kernel
theorem d_Disk_isFree_33 : decode b_Disk_isFree 33 = .ok (.iconst 0, 1) := by decide +kernel
theorem d_Disk_isFree_34 : decode b_Disk_isFree 34 = .ok (.ireturn, 1) := by decide +kernel
set_option maxHeartbeats 4000000 in
set_option maxRecDepth 100000 in
theorem c_Disk_isFree (l : Launch) (D : va_G) (g : Nat → Nat) (k : Nat → ClassId) (L : Nat) (hL0 : 96 ≤ L) (hL : L ≤ 768) (u : DSt) (x : Int32) : RoI l y_Disk_isFree w_Disk_isFree ({ frames := 1, cells := 0, slots := 0, locals := 21 }) [.ref (g 0), .int (x)] (RoP D cl5 (tyC k) (wD g k L u)) (zI (frB L (dNow u) x)) := by
  refine Met.ofW (cc := b_Disk_isFree) (maxL := 2) (ret := (some .boolean)) (by decide) rfl ?_
  intro p e s m args below meth c s₁ B hml hv
  obtain ⟨rfl, hP, hK⟩ := hv
  have hx := B.exec
  have hb := B.bytes
  have hr := B.returns
  have hts := atoms_spec (ws := w_Disk_isFree) B.pre
  have hTB : ∀ w ∈ lw_tb, w.before _ s = true := fun w h => hts w (List.mem_cons_of_mem _ h)
  have hown : s.vm.findClass R_Disk = some m.cls := findClass_of_methodNamed B.named
  have hlocks := B.notSynchronized
  have hS : va_S (fun _ => False) s.heap s.heap [] := va_S.rf
  have hl := lv_entry ([.ref (g 0), .int (x)]) (n := 2) (Nat.le_of_ble_eq_true rfl)
  rw [lg_entry_eq]
  generalize (lg_sl ([.ref (g 0), .int (x)]) ++ List.replicate (2 - (lg_sl ([.ref (g 0), .int (x)])).length) Slot.unset).toArray = ls at hl ⊢
  have hl : lv_has ls 2 [(0, .ref (g 0)), (1, .int (x))] := hl
  refine lv_aload_n hx hb d_Disk_isFree_0 rfl (lv_at hl 0 rfl) ?_
  refine lv_iload_n hx hb d_Disk_isFree_1 rfl (lv_at hl 1 rfl) ?_
  refine gz_roV (As := [.int (x)]) (rest := []) (wc := (wD g k L u)) ⟨hx, hb, hml, hown, hTB⟩ (c_Disk_hasBlock l D g k L hL0 hL u x) (cwV 1 hTB (gd_V k_179 k_181 k_4 k_52 k_182) rfl rfl rfl (by decide +kernel) ⟨Nat.le_of_ble_eq_true rfl, Nat.le_of_ble_eq_true rfl⟩) hK hP [0, 1, 2, 3, 4, 5] rfl 0 rfl rfl rfl hl.1 rfl (Nat.le_of_ble_eq_true rfl) d_Disk_isFree_2 ⟨Nat.zero_le _, Nat.zero_le _⟩ hS (fun H locs hP hS => ?_)
  refine gz_ifz_eq (tgt := 33) hx hb d_Disk_isFree_5 (by decide) (fun h5 => ?_) (fun h5 => ?_)
  · refine lv_iconst (v := nI 0) hx hb d_Disk_isFree_33 (by decide +kernel) ?_
    exact W.zret (v := nI 0) (ty := .boolean) hx hb hr (by decide +kernel) (fun tt9 ht9 hW9 => ⟨⟨_, (), rfl, (by first | (rw [frB_no h5]; rfl) | (rw [frB_in hq hL, (frN_row _ _).mp h26]; rfl) | (rw [frB_in hq hL, Bool.eq_false_iff.mpr (fun z => h26 ((frN_row _ _).mpr z))]; rfl)), trivial⟩, hS.F ht9⟩) hS.2.2 d_Disk_isFree_34
  · obtain ⟨q, hq, rfl⟩ := hsB_of h5 hL
    refine lv_aload_n hx hb d_Disk_isFree_8 rfl (lv_at hl 0 rfl) ?_
    refine va_get (D := D) (ci := 1) (v := .ref (g 1)) (C := R_Disk) (T := T_Disk) (N := 7) hx hb hTB in_Disk hown hK hP 0 rfl rfl 1 (by decide) (hTB _ k_93) (fun _ h9 => h9) rfl d_Disk_isFree_9 ?_
    refine lv_iload_n hx hb d_Disk_isFree_12 rfl (lv_at hl 1 rfl) ?_
    refine gz_roS (As := [.int (nI q)]) (rest := [.ref (g 1)]) ⟨hx, hb, hml, hown, hTB⟩ (c_Disk_mapLongOf l q (by omega)) (cwS 1 hTB (gd_S k_89 k_90 k_52 k_91) rfl rfl rfl (by decide +kernel) ⟨Nat.le_of_ble_eq_true rfl, Nat.le_of_ble_eq_true rfl⟩) hP rfl hl.1 rfl (Nat.le_of_ble_eq_true rfl) d_Disk_isFree_13 ⟨Nat.zero_le _, Nat.zero_le _⟩ hS (fun H locs hP hS => ?_)
    refine gz_lald hx hb hK hP 1 0 rfl rfl (i := 456 + q / 64) (by omega) (by omega) d_Disk_isFree_16 ?_
    refine lv_iload_n hx hb d_Disk_isFree_17 rfl (lv_at hl 1 rfl) ?_
    refine lv_bipush (v := nI 64) hx hb d_Disk_isFree_18 (by decide +kernel) ?_
    refine gz_irem hx hb d_Disk_isFree_20 (by omega) (by decide) (by decide) ?_
    refine lv_lushr hx hb d_Disk_isFree_21 rfl ?_
    refine lv_lconst (v := 1) hx hb d_Disk_isFree_22 (by decide +kernel) ?_
    refine lv_land hx hb d_Disk_isFree_23 ?_
    refine lv_lconst (v := 0) hx hb d_Disk_isFree_24 (by decide +kernel) ?_
    refine W.lcmp hx hb d_Disk_isFree_25 ?_
    refine lv_if_ne (tgt := 33) hx hb d_Disk_isFree_26 (by decide) (fun h26 => ?_) (fun h26 => ?_)
    · refine lv_iconst (v := nI 0) hx hb d_Disk_isFree_33 (by decide +kernel) ?_
      exact W.zret (v := nI 0) (ty := .boolean) hx hb hr (by decide +kernel) (fun tt9 ht9 hW9 => ⟨⟨_, (), rfl, (by first | (rw [frB_no h5]; rfl) | (rw [frB_in hq hL, (frN_row _ _).mp h26]; rfl) | (rw [frB_in hq hL, Bool.eq_false_iff.mpr (fun z => h26 ((frN_row _ _).mpr z))]; rfl)), trivial⟩, hS.F ht9⟩) hS.2.2 d_Disk_isFree_34
    · refine lv_iconst (v := nI 1) hx hb d_Disk_isFree_29 (by decide +kernel) ?_
      refine lv_goto (tgt := 34) hx hb d_Disk_isFree_30 (by decide) ?_
      exact W.zret (v := nI 1) (ty := .boolean) hx hb hr (by decide +kernel) (fun tt9 ht9 hW9 => ⟨⟨_, (), rfl, (by first | (rw [frB_no h5]; rfl) | (rw [frB_in hq hL, (frN_row _ _).mp h26]; rfl) | (rw [frB_in hq hL, Bool.eq_false_iff.mpr (fun z => h26 ((frN_row _ _).mpr z))]; rfl)), trivial⟩, hS.F ht9⟩) hS.2.2 d_Disk_isFree_34
theorem d_Disk_leastFree_0 : decode b_Disk_leastFree 0 = .ok (.bipush 59, 2) := by decide +kernel
theorem d_Disk_leastFree_2 : decode b_Disk_leastFree 2 = .ok (.istore_n 1, 1) := by decide +kernel
theorem d_Disk_leastFree_3 : decode b_Disk_leastFree 3 = .ok (.iload_n 1, 1) := by decide +kernel
theorem d_Disk_leastFree_4 : decode b_Disk_leastFree 4 = .ok (.aload_n 0, 1) := by decide +kernel
theorem d_Disk_leastFree_5 : decode b_Disk_leastFree 5 = .ok (.getfield 9, 3) := by decide +kernel
theorem d_Disk_leastFree_8 : decode b_Disk_leastFree 8 = .ok (.if_icmp .ge 19, 3) := by decide +kernel
theorem d_Disk_leastFree_11 : decode b_Disk_leastFree 11 = .ok (.aload_n 0, 1) := by decide +kernel
theorem d_Disk_leastFree_12 : decode b_Disk_leastFree 12 = .ok (.iload_n 1, 1) := by decide +kernel
theorem d_Disk_leastFree_13 : decode b_Disk_leastFree 13 = .ok (.invokevirtual 61, 3) := by decide +kernel
theorem d_Disk_leastFree_16 : decode b_Disk_leastFree 16 = .ok (.ifCond .eq 5, 3) := by decide +kernel
theorem d_Disk_leastFree_19 : decode b_Disk_leastFree 19 = .ok (.iload_n 1, 1) := by decide +kernel
theorem d_Disk_leastFree_20 : decode b_Disk_leastFree 20 = .ok (.ireturn, 1) := by decide +kernel
theorem d_Disk_leastFree_21 : decode b_Disk_leastFree 21 = .ok (.iinc 1 1, 3) := by decide +kernel
theorem d_Disk_leastFree_24 : decode b_Disk_leastFree 24 = .ok (.goto (-21), 3) := by decide +kernel
theorem d_Disk_leastFree_27 : decode b_Disk_leastFree 27 = .ok (.iconst (-1), 1) := by decide +kernel
theorem d_Disk_leastFree_28 : decode b_Disk_leastFree 28 = .ok (.ireturn, 1) := by decide +kernel
set_option maxHeartbeats 4000000 in
set_option maxRecDepth 100000 in
theorem c_Disk_leastFree (l : Launch) (D : va_G) (g : Nat → Nat) (k : Nat → ClassId) (L : Nat) (hL0 : 96 ≤ L) (hL : L ≤ 768) (u : DSt) : RoI l y_Disk_leastFree w_Disk_leastFree ({ frames := 2, cells := 0, slots := 0, locals := 42 }) [.ref (g 0)] (RoP D cl5 (tyC k) (wD g k L u)) (lfr L (dNow u)) := by
  refine Met.ofW (cc := b_Disk_leastFree) (maxL := 2) (ret := (some .int)) (by decide) rfl ?_
  intro p e s m args below meth c s₁ B hml hv
  obtain ⟨rfl, hP, hK⟩ := hv
  have hx := B.exec
  have hb := B.bytes
  have hr := B.returns
  have hts := atoms_spec (ws := w_Disk_leastFree) B.pre
  have hTB : ∀ w ∈ lw_tb, w.before _ s = true := fun w h => hts w (List.mem_cons_of_mem _ h)
  have hown : s.vm.findClass R_Disk = some m.cls := findClass_of_methodNamed B.named
  have hlocks := B.notSynchronized
  have hS : va_S (fun _ => False) s.heap s.heap [] := va_S.rf
  have hl := lv_entry ([.ref (g 0)]) (n := 2) (Nat.le_of_ble_eq_true rfl)
  rw [lg_entry_eq]
  generalize (lg_sl ([.ref (g 0)]) ++ List.replicate (2 - (lg_sl ([.ref (g 0)])).length) Slot.unset).toArray = ls at hl ⊢
  have hl : lv_has ls 2 [(0, .ref (g 0))] := hl
  refine lv_bipush (v := nI 59) hx hb d_Disk_leastFree_0 (by decide +kernel) ?_
  refine lv_istore_n (lv' := [(1, .int (nI 59)), (0, .ref (g 0))]) hx hb d_Disk_leastFree_2 rfl hl (by decide) rfl (fun ls hl => ?_)
  refine gz_loop 3 (fun (zz : Nat) H locs ls => match zz with | b => va_P D cl5 (wD g k L u) H ∧ va_S (fun _ => False) s.heap H locs ∧ lv_has ls 2 [(0, .ref (g 0)), (1, .int (nI b))] ∧ (b ≤ L) ∧ (lfr L (dNow u) = lfG (dNow u) (L - b) b)) (fun (zz : Nat) => match zz with | b => L - b) (fun zz H locs ls hI ih3 => ?_) (59) ⟨hP, hS, lv_sub hl [1, 0] rfl, (by omega), rfl⟩
  obtain ⟨b, rfl⟩ : ∃ z, z = zz := ⟨_, rfl⟩
  obtain ⟨hP, hS, hl, hb1, hb2⟩ := hI
  refine lv_iload_n hx hb d_Disk_leastFree_3 rfl (lv_at hl 1 rfl) ?_
  refine lv_aload_n hx hb d_Disk_leastFree_4 rfl (lv_at hl 0 rfl) ?_
  refine va_get (D := D) (ci := 1) (v := .int (nI L)) (C := R_Disk) (T := T_Disk) (N := 7) hx hb hTB in_Disk hown hK hP 0 rfl rfl 0 (by decide) (hTB _ k_92) (fun _ h9 => h9) rfl d_Disk_leastFree_5 ?_
  refine gz_icmp_ge (tgt := 27) hx hb d_Disk_leastFree_8 (by decide) (by omega) (by omega) (fun h8 => ?_) (fun h8 => ?_)
  · refine lv_iconst (v := (-1)) hx hb d_Disk_leastFree_27 (by decide +kernel) ?_
    exact W.iret (v := (-1)) hx hb hr (fun tt9 ht9 hW9 => ⟨⟨_, (), rfl, (by rw [hb2, show L - b = 0 by omega]; rfl), trivial⟩, hS.F ht9⟩) hS.2.2 d_Disk_leastFree_28
  · refine lv_aload_n hx hb d_Disk_leastFree_11 rfl (lv_at hl 0 rfl) ?_
    refine lv_iload_n hx hb d_Disk_leastFree_12 rfl (lv_at hl 1 rfl) ?_
    refine gz_roV (As := [.int (nI b)]) (rest := []) (wc := (wD g k L u)) ⟨hx, hb, hml, hown, hTB⟩ (c_Disk_isFree l D g k L hL0 hL u (nI b)) (cwV 1 hTB (gd_V k_175 k_176 k_177 k_52 k_178) rfl rfl rfl (by decide +kernel) ⟨Nat.le_of_ble_eq_true rfl, Nat.le_of_ble_eq_true rfl⟩) hK hP [0, 1, 2, 3, 4, 5] rfl 0 rfl rfl rfl hl.1 rfl (Nat.le_of_ble_eq_true rfl) d_Disk_leastFree_13 ⟨Nat.zero_le _, Nat.zero_le _⟩ hS (fun H locs hP hS => ?_)
    refine gz_ifz_eq (tgt := 21) hx hb d_Disk_leastFree_16 (by decide) (fun h16 => ?_) (fun h16 => ?_)
    · refine lv_iinc (v := nI (b + 1)) (lv' := [(1, .int (nI (b + 1))), (0, .ref (g 0))]) hx hb d_Disk_leastFree_21 hl (k := 1) rfl (nI_add b 1) (by decide) rfl (fun ls hl => ?_)
      refine lv_goto (tgt := 3) hx hb d_Disk_leastFree_24 (by decide) ?_
      exact ih3 (b + 1) _ _ _ (by first | omega | (dsimp only; omega)) ⟨hP, hS, lv_sub hl [1, 0] rfl, (by omega), (by rw [hb2, show L - b = (L - (b + 1)) + 1 by omega, lfG, if_neg (by rw [← frB_in h8 hL, h16]; decide)])⟩
    · refine lv_iload_n hx hb d_Disk_leastFree_19 rfl (lv_at hl 1 rfl) ?_
      exact W.iret (v := nI b) hx hb hr (fun tt9 ht9 hW9 => ⟨⟨_, (), rfl, (by rw [hb2, show L - b = (L - (b + 1)) + 1 by omega, lfG, if_pos (by rw [← frB_in h8 hL]; exact h16)]), trivial⟩, hS.F ht9⟩) hS.2.2 d_Disk_leastFree_20
theorem d_Disk_freeBlocks_0 : decode b_Disk_freeBlocks 0 = .ok (.iconst 0, 1) := by decide +kernel
theorem d_Disk_freeBlocks_1 : decode b_Disk_freeBlocks 1 = .ok (.istore_n 1, 1) := by decide +kernel
theorem d_Disk_freeBlocks_2 : decode b_Disk_freeBlocks 2 = .ok (.bipush 59, 2) := by decide +kernel
theorem d_Disk_freeBlocks_4 : decode b_Disk_freeBlocks 4 = .ok (.istore_n 2, 1) := by decide +kernel
theorem d_Disk_freeBlocks_5 : decode b_Disk_freeBlocks 5 = .ok (.iload_n 2, 1) := by decide +kernel
theorem d_Disk_freeBlocks_6 : decode b_Disk_freeBlocks 6 = .ok (.aload_n 0, 1) := by decide +kernel
theorem d_Disk_freeBlocks_7 : decode b_Disk_freeBlocks 7 = .ok (.getfield 9, 3) := by decide +kernel
theorem d_Disk_freeBlocks_10 : decode b_Disk_freeBlocks 10 = .ok (.if_icmp .ge 20, 3) := by decide +kernel
theorem d_Disk_freeBlocks_13 : decode b_Disk_freeBlocks 13 = .ok (.aload_n 0, 1) := by decide +kernel
theorem d_Disk_freeBlocks_14 : decode b_Disk_freeBlocks 14 = .ok (.iload_n 2, 1) := by decide +kernel
theorem d_Disk_freeBlocks_15 : decode b_Disk_freeBlocks 15 = .ok (.invokevirtual 61, 3) := by decide +kernel
theorem d_Disk_freeBlocks_18 : decode b_Disk_freeBlocks 18 = .ok (.ifCond .eq 6, 3) := by decide +kernel
theorem d_Disk_freeBlocks_21 : decode b_Disk_freeBlocks 21 = .ok (.iinc 1 1, 3) := by decide +kernel
theorem d_Disk_freeBlocks_24 : decode b_Disk_freeBlocks 24 = .ok (.iinc 2 1, 3) := by decide +kernel
theorem d_Disk_freeBlocks_27 : decode b_Disk_freeBlocks 27 = .ok (.goto (-22), 3) := by decide +kernel
theorem d_Disk_freeBlocks_30 : decode b_Disk_freeBlocks 30 = .ok (.iload_n 1, 1) := by decide +kernel
theorem d_Disk_freeBlocks_31 : decode b_Disk_freeBlocks 31 = .ok (.ireturn, 1) := by decide +kernel
set_option maxHeartbeats 4000000 in
set_option maxRecDepth 100000 in
theorem c_Disk_freeBlocks (l : Launch) (D : va_G) (g : Nat → Nat) (k : Nat → ClassId) (L : Nat) (hL0 : 96 ≤ L) (hL : L ≤ 768) (u : DSt) : RoI l y_Disk_freeBlocks w_Disk_freeBlocks ({ frames := 2, cells := 0, slots := 0, locals := 42 }) [.ref (g 0)] (RoP D cl5 (tyC k) (wD g k L u)) (nI (fbs L (dNow u))) := by
  refine Met.ofW (cc := b_Disk_freeBlocks) (maxL := 3) (ret := (some .int)) (by decide) rfl ?_
  intro p e s m args below meth c s₁ B hml hv
  obtain ⟨rfl, hP, hK⟩ := hv
  have hx := B.exec
  have hb := B.bytes
  have hr := B.returns
  have hts := atoms_spec (ws := w_Disk_freeBlocks) B.pre
  have hTB : ∀ w ∈ lw_tb, w.before _ s = true := fun w h => hts w (List.mem_cons_of_mem _ h)
  have hown : s.vm.findClass R_Disk = some m.cls := findClass_of_methodNamed B.named
  have hlocks := B.notSynchronized
  have hS : va_S (fun _ => False) s.heap s.heap [] := va_S.rf
  have hl := lv_entry ([.ref (g 0)]) (n := 3) (Nat.le_of_ble_eq_true rfl)
  rw [lg_entry_eq]
  generalize (lg_sl ([.ref (g 0)]) ++ List.replicate (3 - (lg_sl ([.ref (g 0)])).length) Slot.unset).toArray = ls at hl ⊢
  have hl : lv_has ls 3 [(0, .ref (g 0))] := hl
  refine lv_iconst (v := nI 0) hx hb d_Disk_freeBlocks_0 (by decide +kernel) ?_
  refine lv_istore_n (lv' := [(1, .int (nI 0)), (0, .ref (g 0))]) hx hb d_Disk_freeBlocks_1 rfl hl (by decide) rfl (fun ls hl => ?_)
  refine lv_bipush (v := nI 59) hx hb d_Disk_freeBlocks_2 (by decide +kernel) ?_
  refine lv_istore_n (lv' := [(2, .int (nI 59)), (1, .int (nI 0)), (0, .ref (g 0))]) hx hb d_Disk_freeBlocks_4 rfl hl (by decide) rfl (fun ls hl => ?_)
  refine gz_loop 5 (fun (zz : (Nat × Nat)) H locs ls => match zz with | (n, b) => va_P D cl5 (wD g k L u) H ∧ va_S (fun _ => False) s.heap H locs ∧ lv_has ls 3 [(0, .ref (g 0)), (1, .int (nI n)), (2, .int (nI b))] ∧ (b ≤ L) ∧ (n + fbG (dNow u) (L - b) b = fbs L (dNow u)) ∧ (n ≤ b)) (fun (zz : (Nat × Nat)) => match zz with | (n, b) => L - b) (fun zz H locs ls hI ih5 => ?_) (0, 59) ⟨hP, hS, lv_sub hl [2, 1, 0] rfl, (by omega), (Nat.zero_add _), (by omega)⟩
  obtain ⟨n, b⟩ := zz
  obtain ⟨hP, hS, hl, hb1, hb2, hb3⟩ := hI
  refine lv_iload_n hx hb d_Disk_freeBlocks_5 rfl (lv_at hl 2 rfl) ?_
  refine lv_aload_n hx hb d_Disk_freeBlocks_6 rfl (lv_at hl 0 rfl) ?_
  refine va_get (D := D) (ci := 1) (v := .int (nI L)) (C := R_Disk) (T := T_Disk) (N := 7) hx hb hTB in_Disk hown hK hP 0 rfl rfl 0 (by decide) (hTB _ k_92) (fun _ h9 => h9) rfl d_Disk_freeBlocks_7 ?_
  refine gz_icmp_ge (tgt := 30) hx hb d_Disk_freeBlocks_10 (by decide) (by omega) (by omega) (fun h10 => ?_) (fun h10 => ?_)
  · refine lv_iload_n hx hb d_Disk_freeBlocks_30 rfl (lv_at hl 1 rfl) ?_
    exact W.iret (v := nI n) hx hb hr (fun tt9 ht9 hW9 => ⟨⟨_, (), rfl, (by rw [← hb2, show L - b = 0 by omega]; rfl), trivial⟩, hS.F ht9⟩) hS.2.2 d_Disk_freeBlocks_31
  · refine lv_aload_n hx hb d_Disk_freeBlocks_13 rfl (lv_at hl 0 rfl) ?_
    refine lv_iload_n hx hb d_Disk_freeBlocks_14 rfl (lv_at hl 2 rfl) ?_
    refine gz_roV (As := [.int (nI b)]) (rest := []) (wc := (wD g k L u)) ⟨hx, hb, hml, hown, hTB⟩ (c_Disk_isFree l D g k L hL0 hL u (nI b)) (cwV 1 hTB (gd_V k_175 k_176 k_177 k_52 k_178) rfl rfl rfl (by decide +kernel) ⟨Nat.le_of_ble_eq_true rfl, Nat.le_of_ble_eq_true rfl⟩) hK hP [0, 1, 2, 3, 4, 5] rfl 0 rfl rfl rfl hl.1 rfl (Nat.le_of_ble_eq_true rfl) d_Disk_freeBlocks_15 ⟨Nat.zero_le _, Nat.zero_le _⟩ hS (fun H locs hP hS => ?_)
    refine gz_ifz_eq (tgt := 24) hx hb d_Disk_freeBlocks_18 (by decide) (fun h18 => ?_) (fun h18 => ?_)
    · refine lv_iinc (v := nI (b + 1)) (lv' := [(2, .int (nI (b + 1))), (0, .ref (g 0)), (1, .int (nI n))]) hx hb d_Disk_freeBlocks_24 hl (k := 2) rfl (nI_add b 1) (by decide) rfl (fun ls hl => ?_)
      refine lv_goto (tgt := 5) hx hb d_Disk_freeBlocks_27 (by decide) ?_
      exact ih5 (n, b + 1) _ _ _ (by first | omega | (dsimp only; omega)) ⟨hP, hS, lv_sub hl [1, 2, 0] rfl, (by omega), (by rw [← hb2, show L - b = (L - (b + 1)) + 1 by omega, fbG, ← frB_in h10 hL, h18]; simp; try omega), (by omega)⟩
    · refine lv_iinc (v := nI (n + 1)) (lv' := [(1, .int (nI (n + 1))), (0, .ref (g 0)), (2, .int (nI b))]) hx hb d_Disk_freeBlocks_21 hl (k := 1) rfl (nI_add n 1) (by decide) rfl (fun ls hl => ?_)
      refine lv_iinc (v := nI (b + 1)) (lv' := [(2, .int (nI (b + 1))), (1, .int (nI (n + 1))), (0, .ref (g 0))]) hx hb d_Disk_freeBlocks_24 hl (k := 2) rfl (nI_add b 1) (by decide) rfl (fun ls hl => ?_)
      refine lv_goto (tgt := 5) hx hb d_Disk_freeBlocks_27 (by decide) ?_
      exact ih5 (n + 1, b + 1) _ _ _ (by first | omega | (dsimp only; omega)) ⟨hP, hS, lv_sub hl [2, 1, 0] rfl, (by omega), (by rw [← hb2, show L - b = (L - (b + 1)) + 1 by omega, fbG, ← frB_in h10 hL, h18]; simp; try omega), (by omega)⟩
theorem d_Disk_differingBlocks_0 : decode b_Disk_differingBlocks 0 = .ok (.iconst 0, 1) := by decide +kernel
theorem d_Disk_differingBlocks_1 : decode b_Disk_differingBlocks 1 = .ok (.istore_n 1, 1) := by decide +kernel
theorem d_Disk_differingBlocks_2 : decode b_Disk_differingBlocks 2 = .ok (.iconst 0, 1) := by decide +kernel
theorem d_Disk_differingBlocks_3 : decode b_Disk_differingBlocks 3 = .ok (.istore_n 2, 1) := by decide +kernel
theorem d_Disk_differingBlocks_4 : decode b_Disk_differingBlocks 4 = .ok (.iload_n 2, 1) := by decide +kernel
theorem d_Disk_differingBlocks_5 : decode b_Disk_differingBlocks 5 = .ok (.aload_n 0, 1) := by decide +kernel
theorem d_Disk_differingBlocks_6 : decode b_Disk_differingBlocks 6 = .ok (.getfield 9, 3) := by decide +kernel
theorem d_Disk_differingBlocks_9 : decode b_Disk_differingBlocks 9 = .ok (.if_icmp .ge 21, 3) := by decide +kernel
theorem d_Disk_differingBlocks_12 : decode b_Disk_differingBlocks 12 = .ok (.aload_n 0, 1) := by decide +kernel
theorem d_Disk_differingBlocks_13 : decode b_Disk_differingBlocks 13 = .ok (.getfield 29, 3) := by decide +kernel
theorem d_Disk_differingBlocks_16 : decode b_Disk_differingBlocks 16 = .ok (.iload_n 2, 1) := by decide +kernel
theorem d_Disk_differingBlocks_17 : decode b_Disk_differingBlocks 17 = .ok (.baload, 1) := by decide +kernel
theorem d_Disk_differingBlocks_18 : decode b_Disk_differingBlocks 18 = .ok (.ifCond .eq 6, 3) := by decide +kernel
theorem d_Disk_differingBlocks_21 : decode b_Disk_differingBlocks 21 = .ok (.iinc 1 1, 3) := by decide +kernel
theorem d_Disk_differingBlocks_24 : decode b_Disk_differingBlocks 24 = .ok (.iinc 2 1, 3) := by decide +kernel
theorem d_Disk_differingBlocks_27 : decode b_Disk_differingBlocks 27 = .ok (.goto (-23), 3) := by decide +kernel
theorem d_Disk_differingBlocks_30 : decode b_Disk_differingBlocks 30 = .ok (.iload_n 1, 1) := by decide +kernel
theorem d_Disk_differingBlocks_31 : decode b_Disk_differingBlocks 31 = .ok (.ireturn, 1) := by decide +kernel
set_option maxHeartbeats 4000000 in
set_option maxRecDepth 100000 in
theorem c_Disk_differingBlocks (l : Launch) (D : va_G) (g : Nat → Nat) (k : Nat → ClassId) (L : Nat) (hL0 : 96 ≤ L) (hL : L ≤ 768) (u : DSt) : RoI l y_Disk_differingBlocks w_Disk_differingBlocks ({ frames := 0, cells := 0, slots := 0, locals := 0 }) [.ref (g 0)] (RoP D cl5 (tyC k) (wD g k L u)) (nI (dct L (dDif u))) := by
  refine Met.ofW (cc := b_Disk_differingBlocks) (maxL := 3) (ret := (some .int)) (by decide) rfl ?_
  intro p e s m args below meth c s₁ B hml hv
  obtain ⟨rfl, hP, hK⟩ := hv
  have hx := B.exec
  have hb := B.bytes
  have hr := B.returns
  have hts := atoms_spec (ws := w_Disk_differingBlocks) B.pre
  have hTB : ∀ w ∈ lw_tb, w.before _ s = true := fun w h => hts w (List.mem_cons_of_mem _ h)
  have hown : s.vm.findClass R_Disk = some m.cls := findClass_of_methodNamed B.named
  have hlocks := B.notSynchronized
  have hS : va_S (fun _ => False) s.heap s.heap [] := va_S.rf
  have hl := lv_entry ([.ref (g 0)]) (n := 3) (Nat.le_of_ble_eq_true rfl)
  rw [lg_entry_eq]
  generalize (lg_sl ([.ref (g 0)]) ++ List.replicate (3 - (lg_sl ([.ref (g 0)])).length) Slot.unset).toArray = ls at hl ⊢
  have hl : lv_has ls 3 [(0, .ref (g 0))] := hl
  refine lv_iconst (v := nI 0) hx hb d_Disk_differingBlocks_0 (by decide +kernel) ?_
  refine lv_istore_n (lv' := [(1, .int (nI 0)), (0, .ref (g 0))]) hx hb d_Disk_differingBlocks_1 rfl hl (by decide) rfl (fun ls hl => ?_)
  refine lv_iconst (v := nI 0) hx hb d_Disk_differingBlocks_2 (by decide +kernel) ?_
  refine lv_istore_n (lv' := [(2, .int (nI 0)), (1, .int (nI 0)), (0, .ref (g 0))]) hx hb d_Disk_differingBlocks_3 rfl hl (by decide) rfl (fun ls hl => ?_)
  refine gz_loop 4 (fun (zz : (Nat × Nat)) H locs ls => match zz with | (n, b) => va_P D cl5 (wD g k L u) H ∧ va_S (fun _ => False) s.heap H locs ∧ lv_has ls 3 [(0, .ref (g 0)), (1, .int (nI n)), (2, .int (nI b))] ∧ (b ≤ L) ∧ (n + dcG (dDif u) (L - b) b = dct L (dDif u)) ∧ (n ≤ b)) (fun (zz : (Nat × Nat)) => match zz with | (n, b) => L - b) (fun zz H locs ls hI ih4 => ?_) (0, 0) ⟨hP, hS, lv_sub hl [2, 1, 0] rfl, (by omega), (Nat.zero_add _), (by omega)⟩
  obtain ⟨n, b⟩ := zz
  obtain ⟨hP, hS, hl, hb1, hb2, hb3⟩ := hI
  refine lv_iload_n hx hb d_Disk_differingBlocks_4 rfl (lv_at hl 2 rfl) ?_
  refine lv_aload_n hx hb d_Disk_differingBlocks_5 rfl (lv_at hl 0 rfl) ?_
  refine va_get (D := D) (ci := 1) (v := .int (nI L)) (C := R_Disk) (T := T_Disk) (N := 7) hx hb hTB in_Disk hown hK hP 0 rfl rfl 0 (by decide) (hTB _ k_92) (fun _ h9 => h9) rfl d_Disk_differingBlocks_6 ?_
  refine gz_icmp_ge (tgt := 30) hx hb d_Disk_differingBlocks_9 (by decide) (by omega) (by omega) (fun h9 => ?_) (fun h9 => ?_)
  · refine lv_iload_n hx hb d_Disk_differingBlocks_30 rfl (lv_at hl 1 rfl) ?_
    exact W.iret (v := nI n) hx hb hr (fun tt9 ht9 hW9 => ⟨⟨_, (), rfl, (by rw [← hb2, show L - b = 0 by omega]; rfl), trivial⟩, hS.F ht9⟩) hS.2.2 d_Disk_differingBlocks_31
  · refine lv_aload_n hx hb d_Disk_differingBlocks_12 rfl (lv_at hl 0 rfl) ?_
    refine va_get (D := D) (ci := 1) (v := .ref (g 5)) (C := R_Disk) (T := T_Disk) (N := 7) hx hb hTB in_Disk hown hK hP 0 rfl rfl 5 (by decide) (hTB _ k_97) (fun _ h9 => h9) rfl d_Disk_differingBlocks_13 ?_
    refine lv_iload_n hx hb d_Disk_differingBlocks_16 rfl (lv_at hl 2 rfl) ?_
    refine gz_zald hx hb hK hP 5 1 rfl rfl (i := b) (by omega) (by omega) d_Disk_differingBlocks_17 ?_
    refine gz_ifz_eq (tgt := 24) hx hb d_Disk_differingBlocks_18 (by decide) (fun h18 => ?_) (fun h18 => ?_)
    · refine lv_iinc (v := nI (b + 1)) (lv' := [(2, .int (nI (b + 1))), (0, .ref (g 0)), (1, .int (nI n))]) hx hb d_Disk_differingBlocks_24 hl (k := 2) rfl (nI_add b 1) (by decide) rfl (fun ls hl => ?_)
      refine lv_goto (tgt := 4) hx hb d_Disk_differingBlocks_27 (by decide) ?_
      exact ih4 (n, b + 1) _ _ _ (by first | omega | (dsimp only; omega)) ⟨hP, hS, lv_sub hl [1, 2, 0] rfl, (by omega), (by rw [← hb2, show L - b = (L - (b + 1)) + 1 by omega, dcG, h18]; simp; try omega), (by omega)⟩
    · refine lv_iinc (v := nI (n + 1)) (lv' := [(1, .int (nI (n + 1))), (0, .ref (g 0)), (2, .int (nI b))]) hx hb d_Disk_differingBlocks_21 hl (k := 1) rfl (nI_add n 1) (by decide) rfl (fun ls hl => ?_)
      refine lv_iinc (v := nI (b + 1)) (lv' := [(2, .int (nI (b + 1))), (1, .int (nI (n + 1))), (0, .ref (g 0))]) hx hb d_Disk_differingBlocks_24 hl (k := 2) rfl (nI_add b 1) (by decide) rfl (fun ls hl => ?_)
      refine lv_goto (tgt := 4) hx hb d_Disk_differingBlocks_27 (by decide) ?_
      exact ih4 (n + 1, b + 1) _ _ _ (by first | omega | (dsimp only; omega)) ⟨hP, hS, lv_sub hl [2, 1, 0] rfl, (by omega), (by rw [← hb2, show L - b = (L - (b + 1)) + 1 by omega, dcG, h18]; simp; try omega), (by omega)⟩
theorem d_Disk_differingBlock_0 : decode b_Disk_differingBlock 0 = .ok (.iconst 0, 1) := by decide +kernel
theorem d_Disk_differingBlock_1 : decode b_Disk_differingBlock 1 = .ok (.istore_n 2, 1) := by decide +kernel
theorem d_Disk_differingBlock_2 : decode b_Disk_differingBlock 2 = .ok (.iconst 0, 1) := by decide +kernel
theorem d_Disk_differingBlock_3 : decode b_Disk_differingBlock 3 = .ok (.istore_n 3, 1) := by decide +kernel
theorem d_Disk_differingBlock_4 : decode b_Disk_differingBlock 4 = .ok (.iload_n 3, 1) := by decide +kernel
theorem d_Disk_differingBlock_5 : decode b_Disk_differingBlock 5 = .ok (.aload_n 0, 1) := by decide +kernel
theorem d_Disk_differingBlock_6 : decode b_Disk_differingBlock 6 = .ok (.getfield 9, 3) := by decide +kernel
theorem d_Disk_differingBlock_9 : decode b_Disk_differingBlock 9 = .ok (.if_icmp .ge 28, 3) := by decide +kernel
theorem d_Disk_differingBlock_12 : decode b_Disk_differingBlock 12 = .ok (.aload_n 0, 1) := by decide +kernel
theorem d_Disk_differingBlock_13 : decode b_Disk_differingBlock 13 = .ok (.getfield 29, 3) := by decide +kernel
theorem d_Disk_differingBlock_16 : decode b_Disk_differingBlock 16 = .ok (.iload_n 3, 1) := by decide +kernel
theorem d_Disk_differingBlock_17 : decode b_Disk_differingBlock 17 = .ok (.baload, 1) := by decide +kernel
theorem d_Disk_differingBlock_18 : decode b_Disk_differingBlock 18 = .ok (.ifCond .eq 13, 3) := by decide +kernel
theorem d_Disk_differingBlock_21 : decode b_Disk_differingBlock 21 = .ok (.iload_n 2, 1) := by decide +kernel
theorem d_Disk_differingBlock_22 : decode b_Disk_differingBlock 22 = .ok (.iload_n 1, 1) := by decide +kernel
theorem d_Disk_differingBlock_23 : decode b_Disk_differingBlock 23 = .ok (.if_icmp .ne 5, 3) := by decide +kernel
theorem d_Disk_differingBlock_26 : decode b_Disk_differingBlock 26 = .ok (.iload_n 3, 1) := by decide +kernel
theorem d_Disk_differingBlock_27 : decode b_Disk_differingBlock 27 = .ok (.ireturn, 1) := by decide +kernel
theorem d_Disk_differingBlock_28 : decode b_Disk_differingBlock 28 = .ok (.iinc 2 1, 3) := by decide +kernel
theorem d_Disk_differingBlock_31 : decode b_Disk_differingBlock 31 = .ok (.iinc 3 1, 3) := by decide +kernel
theorem d_Disk_differingBlock_34 : decode b_Disk_differingBlock 34 = .ok (.goto (-30), 3) := by decide +kernel
theorem d_Disk_differingBlock_37 : decode b_Disk_differingBlock 37 = .ok (.iconst (-1), 1) := by decide +kernel
theorem d_Disk_differingBlock_38 : decode b_Disk_differingBlock 38 = .ok (.ireturn, 1) := by decide +kernel
set_option maxHeartbeats 4000000 in
set_option maxRecDepth 100000 in
theorem c_Disk_differingBlock (l : Launch) (D : va_G) (g : Nat → Nat) (k : Nat → ClassId) (L : Nat) (hL0 : 96 ≤ L) (hL : L ≤ 768) (u : DSt) (x : Int32) : RoI l y_Disk_differingBlock w_Disk_differingBlock ({ frames := 0, cells := 0, slots := 0, locals := 0 }) [.ref (g 0), .int (x)] (RoP D cl5 (tyC k) (wD g k L u)) (dbk L (dDif u) x) := by
  refine Met.ofW (cc := b_Disk_differingBlock) (maxL := 4) (ret := (some .int)) (by decide) rfl ?_
  intro p e s m args below meth c s₁ B hml hv
  obtain ⟨rfl, hP, hK⟩ := hv
  have hx := B.exec
  have hb := B.bytes
  have hr := B.returns
  have hts := atoms_spec (ws := w_Disk_differingBlock) B.pre
  have hTB : ∀ w ∈ lw_tb, w.before _ s = true := fun w h => hts w (List.mem_cons_of_mem _ h)
  have hown : s.vm.findClass R_Disk = some m.cls := findClass_of_methodNamed B.named
  have hlocks := B.notSynchronized
  have hS : va_S (fun _ => False) s.heap s.heap [] := va_S.rf
  have hl := lv_entry ([.ref (g 0), .int (x)]) (n := 4) (Nat.le_of_ble_eq_true rfl)
  rw [lg_entry_eq]
  generalize (lg_sl ([.ref (g 0), .int (x)]) ++ List.replicate (4 - (lg_sl ([.ref (g 0), .int (x)])).length) Slot.unset).toArray = ls at hl ⊢
  have hl : lv_has ls 4 [(0, .ref (g 0)), (1, .int (x))] := hl
  refine lv_iconst (v := nI 0) hx hb d_Disk_differingBlock_0 (by decide +kernel) ?_
  refine lv_istore_n (lv' := [(2, .int (nI 0)), (0, .ref (g 0)), (1, .int (x))]) hx hb d_Disk_differingBlock_1 rfl hl (by decide) rfl (fun ls hl => ?_)
  refine lv_iconst (v := nI 0) hx hb d_Disk_differingBlock_2 (by decide +kernel) ?_
  refine lv_istore_n (lv' := [(3, .int (nI 0)), (2, .int (nI 0)), (0, .ref (g 0)), (1, .int (x))]) hx hb d_Disk_differingBlock_3 rfl hl (by decide) rfl (fun ls hl => ?_)
  refine gz_loop 4 (fun (zz : (Nat × Nat)) H locs ls => match zz with | (n, b) => va_P D cl5 (wD g k L u) H ∧ va_S (fun _ => False) s.heap H locs ∧ lv_has ls 4 [(0, .ref (g 0)), (1, .int (x)), (2, .int (nI n)), (3, .int (nI b))] ∧ (b ≤ L) ∧ (dbG (dDif u) x (L - b) b n = dbk L (dDif u) x) ∧ (n ≤ b)) (fun (zz : (Nat × Nat)) => match zz with | (n, b) => L - b) (fun zz H locs ls hI ih4 => ?_) (0, 0) ⟨hP, hS, lv_sub hl [2, 3, 1, 0] rfl, (by omega), rfl, (by omega)⟩
  obtain ⟨n, b⟩ := zz
  obtain ⟨hP, hS, hl, hb1, hb2, hb3⟩ := hI
  refine lv_iload_n hx hb d_Disk_differingBlock_4 rfl (lv_at hl 3 rfl) ?_
  refine lv_aload_n hx hb d_Disk_differingBlock_5 rfl (lv_at hl 0 rfl) ?_
  refine va_get (D := D) (ci := 1) (v := .int (nI L)) (C := R_Disk) (T := T_Disk) (N := 7) hx hb hTB in_Disk hown hK hP 0 rfl rfl 0 (by decide) (hTB _ k_92) (fun _ h9 => h9) rfl d_Disk_differingBlock_6 ?_
  refine gz_icmp_ge (tgt := 37) hx hb d_Disk_differingBlock_9 (by decide) (by omega) (by omega) (fun h9 => ?_) (fun h9 => ?_)
  · refine lv_iconst (v := (-1)) hx hb d_Disk_differingBlock_37 (by decide +kernel) ?_
    exact W.iret (v := (-1)) hx hb hr (fun tt9 ht9 hW9 => ⟨⟨_, (), rfl, (by rw [← hb2, show L - b = 0 by omega]; rfl), trivial⟩, hS.F ht9⟩) hS.2.2 d_Disk_differingBlock_38
  · refine lv_aload_n hx hb d_Disk_differingBlock_12 rfl (lv_at hl 0 rfl) ?_
    refine va_get (D := D) (ci := 1) (v := .ref (g 5)) (C := R_Disk) (T := T_Disk) (N := 7) hx hb hTB in_Disk hown hK hP 0 rfl rfl 5 (by decide) (hTB _ k_97) (fun _ h9 => h9) rfl d_Disk_differingBlock_13 ?_
    refine lv_iload_n hx hb d_Disk_differingBlock_16 rfl (lv_at hl 3 rfl) ?_
    refine gz_zald hx hb hK hP 5 1 rfl rfl (i := b) (by omega) (by omega) d_Disk_differingBlock_17 ?_
    refine gz_ifz_eq (tgt := 31) hx hb d_Disk_differingBlock_18 (by decide) (fun h18 => ?_) (fun h18 => ?_)
    · refine lv_iinc (v := nI (b + 1)) (lv' := [(3, .int (nI (b + 1))), (0, .ref (g 0)), (1, .int (x)), (2, .int (nI n))]) hx hb d_Disk_differingBlock_31 hl (k := 3) rfl (nI_add b 1) (by decide) rfl (fun ls hl => ?_)
      refine lv_goto (tgt := 4) hx hb d_Disk_differingBlock_34 (by decide) ?_
      exact ih4 (n, b + 1) _ _ _ (by first | omega | (dsimp only; omega)) ⟨hP, hS, lv_sub hl [1, 2, 3, 0] rfl, (by omega), (by rw [← hb2, show L - b = (L - (b + 1)) + 1 by omega, dbG, h18]; simp; try (intro h; exact absurd h h23)), (by omega)⟩
    · refine lv_iload_n hx hb d_Disk_differingBlock_21 rfl (lv_at hl 2 rfl) ?_
      refine lv_iload_n hx hb d_Disk_differingBlock_22 rfl (lv_at hl 1 rfl) ?_
      refine lv_icmp_ne (tgt := 28) hx hb d_Disk_differingBlock_23 (by decide) (fun h23 => ?_) (fun h23 => ?_)
      · refine lv_iinc (v := nI (n + 1)) (lv' := [(2, .int (nI (n + 1))), (0, .ref (g 0)), (1, .int (x)), (3, .int (nI b))]) hx hb d_Disk_differingBlock_28 hl (k := 2) rfl (nI_add n 1) (by decide) rfl (fun ls hl => ?_)
        refine lv_iinc (v := nI (b + 1)) (lv' := [(3, .int (nI (b + 1))), (2, .int (nI (n + 1))), (0, .ref (g 0)), (1, .int (x))]) hx hb d_Disk_differingBlock_31 hl (k := 3) rfl (nI_add b 1) (by decide) rfl (fun ls hl => ?_)
        refine lv_goto (tgt := 4) hx hb d_Disk_differingBlock_34 (by decide) ?_
        exact ih4 (n + 1, b + 1) _ _ _ (by first | omega | (dsimp only; omega)) ⟨hP, hS, lv_sub hl [2, 3, 1, 0] rfl, (by omega), (by rw [← hb2, show L - b = (L - (b + 1)) + 1 by omega, dbG, h18]; simp; try (intro h; exact absurd h h23)), (by omega)⟩
      · refine lv_iload_n hx hb d_Disk_differingBlock_26 rfl (lv_at hl 3 rfl) ?_
        exact W.iret (v := nI b) hx hb hr (fun tt9 ht9 hW9 => ⟨⟨_, (), rfl, (by rw [← hb2, show L - b = (L - (b + 1)) + 1 by omega, dbG, h18]; simp [h23]), trivial⟩, hS.F ht9⟩) hS.2.2 d_Disk_differingBlock_27
end
section
theorem d_Disk_touch_0 : decode b_Disk_touch 0 = .ok (.aload_n 0, 1) := by decide +kernel
theorem d_Disk_touch_1 : decode b_Disk_touch 1 = .ok (.getfield 25, 3) := by decide +kernel
theorem d_Disk_touch_4 : decode b_Disk_touch 4 = .ok (.iload_n 1, 1) := by decide +kernel
theorem d_Disk_touch_5 : decode b_Disk_touch 5 = .ok (.baload, 1) := by decide +kernel
theorem d_Disk_touch_6 : decode b_Disk_touch 6 = .ok (.ifCond .ne 31, 3) := by decide +kernel
theorem d_Disk_touch_9 : decode b_Disk_touch 9 = .ok (.aload_n 0, 1) := by decide +kernel
theorem d_Disk_touch_10 : decode b_Disk_touch 10 = .ok (.getfield 25, 3) := by decide +kernel
theorem d_Disk_touch_13 : decode b_Disk_touch 13 = .ok (.iload_n 1, 1) := by decide +kernel
theorem d_Disk_touch_14 : decode b_Disk_touch 14 = .ok (.iconst 1, 1) := by decide +kernel
theorem d_Disk_touch_15 : decode b_Disk_touch 15 = .ok (.bastore, 1) := by decide +kernel
theorem d_Disk_touch_16 : decode b_Disk_touch 16 = .ok (.aload_n 0, 1) := by decide +kernel
theorem d_Disk_touch_17 : decode b_Disk_touch 17 = .ok (.getfield 15, 3) := by decide +kernel
theorem d_Disk_touch_20 : decode b_Disk_touch 20 = .ok (.iload_n 1, 1) := by decide +kernel
theorem d_Disk_touch_21 : decode b_Disk_touch 21 = .ok (.bipush 8, 2) := by decide +kernel
theorem d_Disk_touch_23 : decode b_Disk_touch 23 = .ok (.imul, 1) := by decide +kernel
theorem d_Disk_touch_24 : decode b_Disk_touch 24 = .ok (.aload_n 0, 1) := by decide +kernel
theorem d_Disk_touch_25 : decode b_Disk_touch 25 = .ok (.getfield 22, 3) := by decide +kernel
theorem d_Disk_touch_28 : decode b_Disk_touch 28 = .ok (.iload_n 1, 1) := by decide +kernel
theorem d_Disk_touch_29 : decode b_Disk_touch 29 = .ok (.bipush 8, 2) := by decide +kernel
theorem d_Disk_touch_31 : decode b_Disk_touch 31 = .ok (.imul, 1) := by decide +kernel
theorem d_Disk_touch_32 : decode b_Disk_touch 32 = .ok (.bipush 8, 2) := by decide +kernel
theorem d_Disk_touch_34 : decode b_Disk_touch 34 = .ok (.invokestatic 85, 3) := by decide +kernel
theorem d_Disk_touch_37 : decode b_Disk_touch 37 = .ok (.return_, 1) := by decide +kernel
set_option maxHeartbeats 4000000 in
set_option maxRecDepth 100000 in
theorem c_Disk_touch (l : Launch) (D : va_G) (g : Nat → Nat) (k : Nat → ClassId) (L : Nat) (hL0 : 96 ≤ L) (hL : L ≤ 768) (u : DSt) (b : Nat) (hb0 : b < L) : MuV l y_Disk_touch w_Disk_touch ({ frames := 1, cells := 0, slots := 0, locals := 60 }) [.ref (g 0), .int (nI b)] D cl5 (tyC k) (wD g k L u) (wD g k L (tch u b)) := by
  intro sz
  refine Met.ofW (cc := b_Disk_touch) (maxL := 2) (ret := none) (by decide) rfl ?_
  intro p e s m args below meth c s₁ B hml hv
  obtain ⟨rfl, hsz, hP, hK, hD0⟩ := hv
  have hx := B.exec
  have hb := B.bytes
  have hr := B.returns
  have hts := atoms_spec (ws := w_Disk_touch) B.pre
  have hTB : ∀ w ∈ lw_tb, w.before _ s = true := fun w h => hts w (List.mem_cons_of_mem _ h)
  have hown : s.vm.findClass R_Disk = some m.cls := findClass_of_methodNamed B.named
  have hlocks := B.notSynchronized
  subst hsz
  have hD := hD0.self (sz := s.heap.size)
  generalize hAe : va_A (wD g k L u) s.heap.size = A at hD ⊢
  have hA : ∀ q : Nat, s.heap.size ≤ q → A q := fun q h => by rw [← hAe]; exact Or.inr h
  have hS : va_S A s.heap s.heap [] := va_S.rf
  have hl := lv_entry ([.ref (g 0), .int (nI b)]) (n := 2) (Nat.le_of_ble_eq_true rfl)
  rw [lg_entry_eq]
  generalize (lg_sl ([.ref (g 0), .int (nI b)]) ++ List.replicate (2 - (lg_sl ([.ref (g 0), .int (nI b)])).length) Slot.unset).toArray = ls at hl ⊢
  have hl : lv_has ls 2 [(0, .ref (g 0)), (1, .int (nI b))] := hl
  refine lv_aload_n hx hb d_Disk_touch_0 rfl (lv_at hl 0 rfl) ?_
  refine va_get (D := D) (ci := 1) (v := .ref (g 4)) (C := R_Disk) (T := T_Disk) (N := 7) hx hb hTB in_Disk hown hK hP 0 rfl rfl 4 (by decide) (hTB _ k_96) (fun _ h9 => h9) rfl d_Disk_touch_1 ?_
  refine lv_iload_n hx hb d_Disk_touch_4 rfl (lv_at hl 1 rfl) ?_
  refine gz_zald hx hb hK hP 4 1 rfl rfl (i := b) (by omega) (by omega) d_Disk_touch_5 ?_
  refine gz_ifz_ne (tgt := 37) hx hb d_Disk_touch_6 (by decide) (fun h6 => ?_) (fun h6 => ?_)
  · have hP9 : va_P D cl5 (wD g k L (tch u b)) s.heap := (by rw [tch_t h6]; exact hP)
    have hD9 : va_D A (wD g k L (tch u b)) := (by rw [tch_t h6]; exact hD)
    exact W.vret hx hb hr (fun tt9 ht9 hW9 => ⟨⟨(), rfl, trivial, ⟨by rw [ht9]; exact hP9, hD9⟩⟩, hS.F ht9⟩) hS.2.2 d_Disk_touch_37
  · refine lv_aload_n hx hb d_Disk_touch_9 rfl (lv_at hl 0 rfl) ?_
    refine va_get (D := D) (ci := 1) (v := .ref (g 4)) (C := R_Disk) (T := T_Disk) (N := 7) hx hb hTB in_Disk hown hK hP 0 rfl rfl 4 (by decide) (hTB _ k_96) (fun _ h9 => h9) rfl d_Disk_touch_10 ?_
    refine lv_iload_n hx hb d_Disk_touch_13 rfl (lv_at hl 1 rfl) ?_
    refine lv_iconst (v := nI 1) hx hb d_Disk_touch_14 (by decide +kernel) ?_
    refine gz_zast hx hb hK hP hD hS 4 1 rfl rfl (i := b) true rfl (by omega) (by omega) d_Disk_touch_15 (fun H locs hP hD hS => ?_)
    have hP : va_P D cl5 (wD g k L (sTou u (va_up (dTou u) b true))) H := hP
    have hD : va_D A (wD g k L (sTou u (va_up (dTou u) b true))) := hD
    refine lv_aload_n hx hb d_Disk_touch_16 rfl (lv_at hl 0 rfl) ?_
    refine va_get (D := D) (ci := 1) (v := .ref (g 1)) (C := R_Disk) (T := T_Disk) (N := 7) hx hb hTB in_Disk hown hK hP 0 rfl rfl 1 (by decide) (hTB _ k_93) (fun _ h9 => h9) rfl d_Disk_touch_17 ?_
    refine lv_iload_n hx hb d_Disk_touch_20 rfl (lv_at hl 1 rfl) ?_
    refine lv_bipush (v := nI 8) hx hb d_Disk_touch_21 (by decide +kernel) ?_
    refine gz_imul hx hb d_Disk_touch_23 ?_
    refine lv_aload_n hx hb d_Disk_touch_24 rfl (lv_at hl 0 rfl) ?_
    refine va_get (D := D) (ci := 1) (v := .ref (g 3)) (C := R_Disk) (T := T_Disk) (N := 7) hx hb hTB in_Disk hown hK hP 0 rfl rfl 3 (by decide) (hTB _ k_95) (fun _ h9 => h9) rfl d_Disk_touch_25 ?_
    refine lv_iload_n hx hb d_Disk_touch_28 rfl (lv_at hl 1 rfl) ?_
    refine lv_bipush (v := nI 8) hx hb d_Disk_touch_29 (by decide +kernel) ?_
    refine gz_imul hx hb d_Disk_touch_31 ?_
    refine lv_bipush (v := nI 8) hx hb d_Disk_touch_32 (by decide +kernel) ?_
    refine gz_copyl hx hb (hml.trans hl.1.symm) hown (hTB _ k_86) (hTB _ k_88) (hTB _ k_87) (hTB _ k_53) hK hP hD hS 1 3 0 0 rfl rfl rfl rfl (by omega) (by omega) (by omega) (by omega) (Nat.le_of_ble_eq_true rfl) (by decide +kernel) d_Disk_touch_34 (fun H locs hP hD hS => ?_)
    have hP : va_P D cl5 (wD g k L (sBef (sTou u (va_up (dTou u) b true)) (va_cpy (dNow (sTou u (va_up (dTou u) b true))) (dBef (sTou u (va_up (dTou u) b true))) (b * 8) (b * 8) 8))) H := hP
    have hD : va_D A (wD g k L (sBef (sTou u (va_up (dTou u) b true)) (va_cpy (dNow (sTou u (va_up (dTou u) b true))) (dBef (sTou u (va_up (dTou u) b true))) (b * 8) (b * 8) 8))) := hD
    have hP9 : va_P D cl5 (wD g k L (tch u b)) H := (by rw [tch_f h6]; exact hP)
    have hD9 : va_D A (wD g k L (tch u b)) := (by rw [tch_f h6]; exact hD)
    exact W.vret hx hb hr (fun tt9 ht9 hW9 => ⟨⟨(), rfl, trivial, ⟨by rw [ht9]; exact hP9, hD9⟩⟩, hS.F ht9⟩) hS.2.2 d_Disk_touch_37
theorem d_Disk_setByte_0 : decode b_Disk_setByte 0 = .ok (.iload_n 1, 1) := by decide +kernel
theorem d_Disk_setByte_1 : decode b_Disk_setByte 1 = .ok (.ifCond .lt 71, 3) := by decide +kernel
theorem d_Disk_setByte_4 : decode b_Disk_setByte 4 = .ok (.iload_n 1, 1) := by decide +kernel
theorem d_Disk_setByte_5 : decode b_Disk_setByte 5 = .ok (.aload_n 0, 1) := by decide +kernel
theorem d_Disk_setByte_6 : decode b_Disk_setByte 6 = .ok (.getfield 9, 3) := by decide +kernel
theorem d_Disk_setByte_9 : decode b_Disk_setByte 9 = .ok (.bipush 64, 2) := by decide +kernel
theorem d_Disk_setByte_11 : decode b_Disk_setByte 11 = .ok (.imul, 1) := by decide +kernel
theorem d_Disk_setByte_12 : decode b_Disk_setByte 12 = .ok (.if_icmp .ge 60, 3) := by decide +kernel
theorem d_Disk_setByte_15 : decode b_Disk_setByte 15 = .ok (.aload_n 0, 1) := by decide +kernel
theorem d_Disk_setByte_16 : decode b_Disk_setByte 16 = .ok (.iload_n 1, 1) := by decide +kernel
theorem d_Disk_setByte_17 : decode b_Disk_setByte 17 = .ok (.bipush 64, 2) := by decide +kernel
theorem d_Disk_setByte_19 : decode b_Disk_setByte 19 = .ok (.idiv, 1) := by decide +kernel
theorem d_Disk_setByte_20 : decode b_Disk_setByte 20 = .ok (.invokevirtual 47, 3) := by decide +kernel
theorem d_Disk_setByte_23 : decode b_Disk_setByte 23 = .ok (.iload_n 1, 1) := by decide +kernel
theorem d_Disk_setByte_24 : decode b_Disk_setByte 24 = .ok (.bipush 8, 2) := by decide +kernel
theorem d_Disk_setByte_26 : decode b_Disk_setByte 26 = .ok (.irem, 1) := by decide +kernel
theorem d_Disk_setByte_27 : decode b_Disk_setByte 27 = .ok (.bipush 8, 2) := by decide +kernel
theorem d_Disk_setByte_29 : decode b_Disk_setByte 29 = .ok (.imul, 1) := by decide +kernel
theorem d_Disk_setByte_30 : decode b_Disk_setByte 30 = .ok (.istore_n 3, 1) := by decide +kernel
theorem d_Disk_setByte_31 : decode b_Disk_setByte 31 = .ok (.aload_n 0, 1) := by decide +kernel
theorem d_Disk_setByte_32 : decode b_Disk_setByte 32 = .ok (.getfield 15, 3) := by decide +kernel
theorem d_Disk_setByte_35 : decode b_Disk_setByte 35 = .ok (.iload_n 1, 1) := by decide +kernel
theorem d_Disk_setByte_36 : decode b_Disk_setByte 36 = .ok (.bipush 8, 2) := by decide +kernel
theorem d_Disk_setByte_38 : decode b_Disk_setByte 38 = .ok (.idiv, 1) := by decide +kernel
theorem d_Disk_setByte_39 : decode b_Disk_setByte 39 = .ok (.laload, 1) := by decide +kernel
theorem d_Disk_setByte_40 : decode b_Disk_setByte 40 = .ok (.ldc2_w 50, 3) := by decide +kernel
theorem d_Disk_setByte_43 : decode b_Disk_setByte 43 = .ok (.iload_n 3, 1) := by decide +kernel
theorem d_Disk_setByte_44 : decode b_Disk_setByte 44 = .ok (.lshl, 1) := by decide +kernel
theorem d_Disk_setByte_45 : decode b_Disk_setByte 45 = .ok (.ldc2_w 52, 3) := by decide +kernel
theorem d_Disk_setByte_48 : decode b_Disk_setByte 48 = .ok (.lxor, 1) := by decide +kernel
theorem d_Disk_setByte_49 : decode b_Disk_setByte 49 = .ok (.land, 1) := by decide +kernel
theorem d_Disk_setByte_50 : decode b_Disk_setByte 50 = .ok (.lstore 4, 2) := by decide +kernel
theorem d_Disk_setByte_52 : decode b_Disk_setByte 52 = .ok (.aload_n 0, 1) := by decide +kernel
theorem d_Disk_setByte_53 : decode b_Disk_setByte 53 = .ok (.getfield 15, 3) := by decide +kernel
theorem d_Disk_setByte_56 : decode b_Disk_setByte 56 = .ok (.iload_n 1, 1) := by decide +kernel
theorem d_Disk_setByte_57 : decode b_Disk_setByte 57 = .ok (.bipush 8, 2) := by decide +kernel
theorem d_Disk_setByte_59 : decode b_Disk_setByte 59 = .ok (.idiv, 1) := by decide +kernel
theorem d_Disk_setByte_60 : decode b_Disk_setByte 60 = .ok (.lload 4, 2) := by decide +kernel
theorem d_Disk_setByte_62 : decode b_Disk_setByte 62 = .ok (.iload_n 2, 1) := by decide +kernel
theorem d_Disk_setByte_63 : decode b_Disk_setByte 63 = .ok (.i2l, 1) := by decide +kernel
theorem d_Disk_setByte_64 : decode b_Disk_setByte 64 = .ok (.ldc2_w 50, 3) := by decide +kernel
theorem d_Disk_setByte_67 : decode b_Disk_setByte 67 = .ok (.land, 1) := by decide +kernel
theorem d_Disk_setByte_68 : decode b_Disk_setByte 68 = .ok (.iload_n 3, 1) := by decide +kernel
theorem d_Disk_setByte_69 : decode b_Disk_setByte 69 = .ok (.lshl, 1) := by decide +kernel
theorem d_Disk_setByte_70 : decode b_Disk_setByte 70 = .ok (.lor, 1) := by decide +kernel
theorem d_Disk_setByte_71 : decode b_Disk_setByte 71 = .ok (.lastore, 1) := by decide +kernel
theorem d_Disk_setByte_72 : decode b_Disk_setByte 72 = .ok (.return_, 1) := by decide +kernel
set_option maxHeartbeats 4000000 in
set_option maxRecDepth 100000 in
theorem c_Disk_setByte (l : Launch) (D : va_G) (g : Nat → Nat) (k : Nat → ClassId) (L : Nat) (hL0 : 96 ≤ L) (hL : L ≤ 768) (u : DSt) (x v : Int32) : MuV l y_Disk_setByte w_Disk_setByte ({ frames := 2, cells := 0, slots := 0, locals := 81 }) [.ref (g 0), .int (x), .int (v)] D cl5 (tyC k) (wD g k L u) (wD g k L (setB L u x v)) := by
  intro sz
  refine Met.ofW (cc := b_Disk_setByte) (maxL := 6) (ret := none) (by decide) rfl ?_
  intro p e s m args below meth c s₁ B hml hv
  obtain ⟨rfl, hsz, hP, hK, hD0⟩ := hv
  have hx := B.exec
  have hb := B.bytes
  have hr := B.returns
  have hts := atoms_spec (ws := w_Disk_setByte) B.pre
  have hTB : ∀ w ∈ lw_tb, w.before _ s = true := fun w h => hts w (List.mem_cons_of_mem _ h)
  have hown : s.vm.findClass R_Disk = some m.cls := findClass_of_methodNamed B.named
  have hlocks := B.notSynchronized
  subst hsz
  have hD := hD0.self (sz := s.heap.size)
  generalize hAe : va_A (wD g k L u) s.heap.size = A at hD ⊢
  have hA : ∀ q : Nat, s.heap.size ≤ q → A q := fun q h => by rw [← hAe]; exact Or.inr h
  have hS : va_S A s.heap s.heap [] := va_S.rf
  have hl := lv_entry ([.ref (g 0), .int (x), .int (v)]) (n := 6) (Nat.le_of_ble_eq_true rfl)
  rw [lg_entry_eq]
  generalize (lg_sl ([.ref (g 0), .int (x), .int (v)]) ++ List.replicate (6 - (lg_sl ([.ref (g 0), .int (x), .int (v)])).length) Slot.unset).toArray = ls at hl ⊢
  have hl : lv_has ls 6 [(0, .ref (g 0)), (1, .int (x)), (2, .int (v))] := hl
  refine lv_iload_n hx hb d_Disk_setByte_0 rfl (lv_at hl 1 rfl) ?_
  refine lv_if_lt (tgt := 72) hx hb d_Disk_setByte_1 (by decide) (fun h1 => ?_) (fun h1 => ?_)
  · have hP9 : va_P D cl5 (wD g k L (setB L u x v)) s.heap := (by rw [setB_lo h1]; exact hP)
    have hD9 : va_D A (wD g k L (setB L u x v)) := (by rw [setB_lo h1]; exact hD)
    exact W.vret hx hb hr (fun tt9 ht9 hW9 => ⟨⟨(), rfl, trivial, ⟨by rw [ht9]; exact hP9, hD9⟩⟩, hS.F ht9⟩) hS.2.2 d_Disk_setByte_72
  · obtain ⟨q, hq, rfl⟩ := nI_of h1
    refine lv_iload_n hx hb d_Disk_setByte_4 rfl (lv_at hl 1 rfl) ?_
    refine lv_aload_n hx hb d_Disk_setByte_5 rfl (lv_at hl 0 rfl) ?_
    refine va_get (D := D) (ci := 1) (v := .int (nI L)) (C := R_Disk) (T := T_Disk) (N := 7) hx hb hTB in_Disk hown hK hP 0 rfl rfl 0 (by decide) (hTB _ k_92) (fun _ h9 => h9) rfl d_Disk_setByte_6 ?_
    refine lv_bipush (v := nI 64) hx hb d_Disk_setByte_9 (by decide +kernel) ?_
    refine gz_imul hx hb d_Disk_setByte_11 ?_
    refine gz_icmp_ge (tgt := 72) hx hb d_Disk_setByte_12 (by decide) (by omega) (by omega) (fun h12 => ?_) (fun h12 => ?_)
    · have hP9 : va_P D cl5 (wD g k L (setB L u (nI q) v)) s.heap := (by rw [setB_hi h12 (by omega)]; exact hP)
      have hD9 : va_D A (wD g k L (setB L u (nI q) v)) := (by rw [setB_hi h12 (by omega)]; exact hD)
      exact W.vret hx hb hr (fun tt9 ht9 hW9 => ⟨⟨(), rfl, trivial, ⟨by rw [ht9]; exact hP9, hD9⟩⟩, hS.F ht9⟩) hS.2.2 d_Disk_setByte_72
    · refine lv_aload_n hx hb d_Disk_setByte_15 rfl (lv_at hl 0 rfl) ?_
      refine lv_iload_n hx hb d_Disk_setByte_16 rfl (lv_at hl 1 rfl) ?_
      refine lv_bipush (v := nI 64) hx hb d_Disk_setByte_17 (by decide +kernel) ?_
      refine gz_idiv hx hb d_Disk_setByte_19 (by omega) (by decide) (by decide) ?_
      refine gz_muV (As := [.int (nI (q / 64))]) (rest := []) (wc := (wD g k L u)) (w1 := (wD g k L (tch u (q / 64)))) (wr := ([])) ⟨hx, hb, hml, hown, hTB⟩ (c_Disk_touch l D g k L hL0 hL u (q / 64) (by omega)) (cwV 1 hTB (gd_V k_82 k_84 k_1 k_52 k_85) rfl rfl rfl (by decide +kernel) ⟨Nat.le_of_ble_eq_true rfl, Nat.le_of_ble_eq_true rfl⟩) hK hP hD hA [0, 1, 2, 3, 4, 5] [] rfl rfl (by decide) rfl (by decide) (by decide) 0 rfl rfl rfl hl.1 rfl (Nat.le_of_ble_eq_true rfl) d_Disk_setByte_20 ⟨Nat.zero_le _, Nat.zero_le _⟩ hS (fun H locs hP hD hS => ?_)
      have hP : va_P D cl5 (wD g k L (tch u (q / 64))) H := hP
      have hD : va_D A (wD g k L (tch u (q / 64))) := hD
      refine lv_iload_n hx hb d_Disk_setByte_23 rfl (lv_at hl 1 rfl) ?_
      refine lv_bipush (v := nI 8) hx hb d_Disk_setByte_24 (by decide +kernel) ?_
      refine gz_irem hx hb d_Disk_setByte_26 (by omega) (by decide) (by decide) ?_
      refine lv_bipush (v := nI 8) hx hb d_Disk_setByte_27 (by decide +kernel) ?_
      refine gz_imul hx hb d_Disk_setByte_29 ?_
      refine lv_istore_n (lv' := [(3, .int (nI ((q % 8) * 8))), (0, .ref (g 0)), (1, .int (nI q)), (2, .int (v))]) hx hb d_Disk_setByte_30 rfl hl (by decide) rfl (fun ls hl => ?_)
      refine lv_aload_n hx hb d_Disk_setByte_31 rfl (lv_at hl 1 rfl) ?_
      refine va_get (D := D) (ci := 1) (v := .ref (g 1)) (C := R_Disk) (T := T_Disk) (N := 7) hx hb hTB in_Disk hown hK hP 0 rfl rfl 1 (by decide) (hTB _ k_93) (fun _ h9 => h9) rfl d_Disk_setByte_32 ?_
      refine lv_iload_n hx hb d_Disk_setByte_35 rfl (lv_at hl 2 rfl) ?_
      refine lv_bipush (v := nI 8) hx hb d_Disk_setByte_36 (by decide +kernel) ?_
      refine gz_idiv hx hb d_Disk_setByte_38 (by omega) (by decide) (by decide) ?_
      refine gz_lald hx hb hK hP 1 0 rfl rfl (i := q / 8) (by omega) (by omega) d_Disk_setByte_39 ?_
      refine lv_ldc2 (v := 255) hx hb hown (hTB _ k_154) d_Disk_setByte_40 ?_
      refine lv_iload_n hx hb d_Disk_setByte_43 rfl (lv_at hl 0 rfl) ?_
      refine lv_lshl hx hb d_Disk_setByte_44 rfl ?_
      refine lv_ldc2 (v := (-1)) hx hb hown (hTB _ k_155) d_Disk_setByte_45 ?_
      refine lv_lxor hx hb d_Disk_setByte_48 ?_
      refine lv_land hx hb d_Disk_setByte_49 ?_
      refine lv_lstore (lv' := [(4, .long ((dNow (tch u (q / 64)) (q / 8)) &&& ((255 <<< ((nI ((q % 8) * 8)).toInt64 &&& 63)) ^^^ ((-1))))), (3, .int (nI ((q % 8) * 8))), (0, .ref (g 0)), (1, .int (nI q)), (2, .int (v))]) hx hb d_Disk_setByte_50 hl (by decide) rfl (fun ls hl => ?_)
      refine lv_aload_n hx hb d_Disk_setByte_52 rfl (lv_at hl 2 rfl) ?_
      refine va_get (D := D) (ci := 1) (v := .ref (g 1)) (C := R_Disk) (T := T_Disk) (N := 7) hx hb hTB in_Disk hown hK hP 0 rfl rfl 1 (by decide) (hTB _ k_93) (fun _ h9 => h9) rfl d_Disk_setByte_53 ?_
      refine lv_iload_n hx hb d_Disk_setByte_56 rfl (lv_at hl 3 rfl) ?_
      refine lv_bipush (v := nI 8) hx hb d_Disk_setByte_57 (by decide +kernel) ?_
      refine gz_idiv hx hb d_Disk_setByte_59 (by omega) (by decide) (by decide) ?_
      refine lv_lload hx hb d_Disk_setByte_60 (lv_at hl 0 rfl) ?_
      refine lv_iload_n hx hb d_Disk_setByte_62 rfl (lv_at hl 4 rfl) ?_
      refine lv_i2l hx hb d_Disk_setByte_63 rfl ?_
      refine lv_ldc2 (v := 255) hx hb hown (hTB _ k_154) d_Disk_setByte_64 ?_
      refine lv_land hx hb d_Disk_setByte_67 ?_
      refine lv_iload_n hx hb d_Disk_setByte_68 rfl (lv_at hl 1 rfl) ?_
      refine lv_lshl hx hb d_Disk_setByte_69 rfl ?_
      refine lv_lor hx hb d_Disk_setByte_70 ?_
      refine gz_last hx hb hK hP hD hS 1 0 rfl rfl (i := q / 8) (by omega) (by omega) d_Disk_setByte_71 (fun H locs hP hD hS => ?_)
      have hP : va_P D cl5 (wD g k L (sNow (tch u (q / 64)) (va_up (dNow (tch u (q / 64))) (q / 8) (((dNow (tch u (q / 64)) (q / 8)) &&& ((255 <<< ((nI ((q % 8) * 8)).toInt64 &&& 63)) ^^^ ((-1)))) ||| ((((v).toInt64) &&& 255) <<< ((nI ((q % 8) * 8)).toInt64 &&& 63)))))) H := hP
      have hD : va_D A (wD g k L (sNow (tch u (q / 64)) (va_up (dNow (tch u (q / 64))) (q / 8) (((dNow (tch u (q / 64)) (q / 8)) &&& ((255 <<< ((nI ((q % 8) * 8)).toInt64 &&& 63)) ^^^ ((-1)))) ||| ((((v).toInt64) &&& 255) <<< ((nI ((q % 8) * 8)).toInt64 &&& 63)))))) := hD
      have hP9 : va_P D cl5 (wD g k L (setB L u (nI q) v)) H := (by rw [setB_in h12 hL]; unfold stB stL; rw [← tch_now u (q / 64)]; exact hP)
      have hD9 : va_D A (wD g k L (setB L u (nI q) v)) := (by rw [setB_in h12 hL]; unfold stB stL; rw [← tch_now u (q / 64)]; exact hD)
      exact W.vret hx hb hr (fun tt9 ht9 hW9 => ⟨⟨(), rfl, trivial, ⟨by rw [ht9]; exact hP9, hD9⟩⟩, hS.F ht9⟩) hS.2.2 d_Disk_setByte_72
theorem d_Disk_setPair_0 : decode b_Disk_setPair 0 = .ok (.aload_n 0, 1) := by decide +kernel
theorem d_Disk_setPair_1 : decode b_Disk_setPair 1 = .ok (.iload_n 1, 1) := by decide +kernel
theorem d_Disk_setPair_2 : decode b_Disk_setPair 2 = .ok (.iload_n 2, 1) := by decide +kernel
theorem d_Disk_setPair_3 : decode b_Disk_setPair 3 = .ok (.invokevirtual 54, 3) := by decide +kernel
theorem d_Disk_setPair_6 : decode b_Disk_setPair 6 = .ok (.aload_n 0, 1) := by decide +kernel
theorem d_Disk_setPair_7 : decode b_Disk_setPair 7 = .ok (.iload_n 1, 1) := by decide +kernel
theorem d_Disk_setPair_8 : decode b_Disk_setPair 8 = .ok (.iconst 1, 1) := by decide +kernel
theorem d_Disk_setPair_9 : decode b_Disk_setPair 9 = .ok (.iadd, 1) := by decide +kernel
theorem d_Disk_setPair_10 : decode b_Disk_setPair 10 = .ok (.iload_n 2, 1) := by decide +kernel
theorem d_Disk_setPair_11 : decode b_Disk_setPair 11 = .ok (.bipush 8, 2) := by decide +kernel
theorem d_Disk_setPair_13 : decode b_Disk_setPair 13 = .ok (.iushr, 1) := by decide +kernel
theorem d_Disk_setPair_14 : decode b_Disk_setPair 14 = .ok (.invokevirtual 54, 3) := by decide +kernel
theorem d_Disk_setPair_17 : decode b_Disk_setPair 17 = .ok (.return_, 1) := by decide +kernel
set_option maxHeartbeats 4000000 in
set_option maxRecDepth 100000 in
theorem c_Disk_setPair (l : Launch) (D : va_G) (g : Nat → Nat) (k : Nat → ClassId) (L : Nat) (hL0 : 96 ≤ L) (hL : L ≤ 768) (u : DSt) (x v : Int32) : MuV l y_Disk_setPair w_Disk_setPair ({ frames := 3, cells := 0, slots := 0, locals := 106 }) [.ref (g 0), .int (x), .int (v)] D cl5 (tyC k) (wD g k L u) (wD g k L (setP L u x v)) := by
  intro sz
  refine Met.ofW (cc := b_Disk_setPair) (maxL := 3) (ret := none) (by decide) rfl ?_
  intro p e s m args below meth c s₁ B hml hv
  obtain ⟨rfl, hsz, hP, hK, hD0⟩ := hv
  have hx := B.exec
  have hb := B.bytes
  have hr := B.returns
  have hts := atoms_spec (ws := w_Disk_setPair) B.pre
  have hTB : ∀ w ∈ lw_tb, w.before _ s = true := fun w h => hts w (List.mem_cons_of_mem _ h)
  have hown : s.vm.findClass R_Disk = some m.cls := findClass_of_methodNamed B.named
  have hlocks := B.notSynchronized
  subst hsz
  have hD := hD0.self (sz := s.heap.size)
  generalize hAe : va_A (wD g k L u) s.heap.size = A at hD ⊢
  have hA : ∀ q : Nat, s.heap.size ≤ q → A q := fun q h => by rw [← hAe]; exact Or.inr h
  have hS : va_S A s.heap s.heap [] := va_S.rf
  have hl := lv_entry ([.ref (g 0), .int (x), .int (v)]) (n := 3) (Nat.le_of_ble_eq_true rfl)
  rw [lg_entry_eq]
  generalize (lg_sl ([.ref (g 0), .int (x), .int (v)]) ++ List.replicate (3 - (lg_sl ([.ref (g 0), .int (x), .int (v)])).length) Slot.unset).toArray = ls at hl ⊢
  have hl : lv_has ls 3 [(0, .ref (g 0)), (1, .int (x)), (2, .int (v))] := hl
  refine lv_aload_n hx hb d_Disk_setPair_0 rfl (lv_at hl 0 rfl) ?_
  refine lv_iload_n hx hb d_Disk_setPair_1 rfl (lv_at hl 1 rfl) ?_
  refine lv_iload_n hx hb d_Disk_setPair_2 rfl (lv_at hl 2 rfl) ?_
  refine gz_muV (As := [.int (x), .int (v)]) (rest := []) (wc := (wD g k L u)) (w1 := (wD g k L (setB L u x v))) (wr := ([])) ⟨hx, hb, hml, hown, hTB⟩ (c_Disk_setByte l D g k L hL0 hL u x v) (cwV 2 hTB (gd_V k_416 k_151 k_152 k_52 k_153) rfl rfl rfl (by decide +kernel) ⟨Nat.le_of_ble_eq_true rfl, Nat.le_of_ble_eq_true rfl⟩) hK hP hD hA [0, 1, 2, 3, 4, 5] [] rfl rfl (by decide) rfl (by decide) (by decide) 0 rfl rfl rfl hl.1 rfl (Nat.le_of_ble_eq_true rfl) d_Disk_setPair_3 ⟨Nat.zero_le _, Nat.zero_le _⟩ hS (fun H locs hP hD hS => ?_)
  have hP : va_P D cl5 (wD g k L (setB L u x v)) H := hP
  have hD : va_D A (wD g k L (setB L u x v)) := hD
  refine lv_aload_n hx hb d_Disk_setPair_6 rfl (lv_at hl 0 rfl) ?_
  refine lv_iload_n hx hb d_Disk_setPair_7 rfl (lv_at hl 1 rfl) ?_
  refine lv_iconst (v := nI 1) hx hb d_Disk_setPair_8 (by decide +kernel) ?_
  refine lv_iadd hx hb d_Disk_setPair_9 ?_
  refine lv_iload_n hx hb d_Disk_setPair_10 rfl (lv_at hl 2 rfl) ?_
  refine lv_bipush (v := nI 8) hx hb d_Disk_setPair_11 (by decide +kernel) ?_
  refine lv_iushr hx hb d_Disk_setPair_13 rfl ?_
  refine gz_muV (As := [.int (x + (nI 1)), .int (((v).toUInt32 >>> ((nI 8).toUInt32 &&& Int32.toUInt32 31)).toInt32)]) (rest := []) (wc := (wD g k L (setB L u x v))) (w1 := (wD g k L (setB L (setB L u x v) (x + (nI 1)) (((v).toUInt32 >>> ((nI 8).toUInt32 &&& Int32.toUInt32 31)).toInt32)))) (wr := ([])) ⟨hx, hb, hml, hown, hTB⟩ (c_Disk_setByte l D g k L hL0 hL (setB L u x v) (x + (nI 1)) (((v).toUInt32 >>> ((nI 8).toUInt32 &&& Int32.toUInt32 31)).toInt32)) (cwV 2 hTB (gd_V k_416 k_151 k_152 k_52 k_153) rfl rfl rfl (by decide +kernel) ⟨Nat.le_of_ble_eq_true rfl, Nat.le_of_ble_eq_true rfl⟩) hK hP hD hA [0, 1, 2, 3, 4, 5] [] rfl rfl (by decide) rfl (by decide) (by decide) 0 rfl rfl rfl hl.1 rfl (Nat.le_of_ble_eq_true rfl) d_Disk_setPair_14 ⟨Nat.zero_le _, Nat.zero_le _⟩ hS (fun H locs hP hD hS => ?_)
  have hP : va_P D cl5 (wD g k L (setB L (setB L u x v) (x + (nI 1)) (((v).toUInt32 >>> ((nI 8).toUInt32 &&& Int32.toUInt32 31)).toInt32))) H := hP
  have hD : va_D A (wD g k L (setB L (setB L u x v) (x + (nI 1)) (((v).toUInt32 >>> ((nI 8).toUInt32 &&& Int32.toUInt32 31)).toInt32))) := hD
  have hP9 : va_P D cl5 (wD g k L (setP L u x v)) H := hP
  have hD9 : va_D A (wD g k L (setP L u x v)) := hD
  exact W.vret hx hb hr (fun tt9 ht9 hW9 => ⟨⟨(), rfl, trivial, ⟨by rw [ht9]; exact hP9, hD9⟩⟩, hS.F ht9⟩) hS.2.2 d_Disk_setPair_17
theorem d_Disk_flipMapBit_0 : decode b_Disk_flipMapBit 0 = .ok (.aload_n 0, 1) := by decide +kernel
theorem d_Disk_flipMapBit_1 : decode b_Disk_flipMapBit 1 = .ok (.bipush 57, 2) := by decide +kernel
theorem d_Disk_flipMapBit_3 : decode b_Disk_flipMapBit 3 = .ok (.iload_n 1, 1) := by decide +kernel
theorem d_Disk_flipMapBit_4 : decode b_Disk_flipMapBit 4 = .ok (.sipush 512, 3) := by decide +kernel
theorem d_Disk_flipMapBit_7 : decode b_Disk_flipMapBit 7 = .ok (.idiv, 1) := by decide +kernel
theorem d_Disk_flipMapBit_8 : decode b_Disk_flipMapBit 8 = .ok (.iadd, 1) := by decide +kernel
theorem d_Disk_flipMapBit_9 : decode b_Disk_flipMapBit 9 = .ok (.invokevirtual 47, 3) := by decide +kernel
theorem d_Disk_flipMapBit_12 : decode b_Disk_flipMapBit 12 = .ok (.aload_n 0, 1) := by decide +kernel
theorem d_Disk_flipMapBit_13 : decode b_Disk_flipMapBit 13 = .ok (.getfield 15, 3) := by decide +kernel
theorem d_Disk_flipMapBit_16 : decode b_Disk_flipMapBit 16 = .ok (.iload_n 1, 1) := by decide +kernel
theorem d_Disk_flipMapBit_17 : decode b_Disk_flipMapBit 17 = .ok (.invokestatic 58, 3) := by decide +kernel
theorem d_Disk_flipMapBit_20 : decode b_Disk_flipMapBit 20 = .ok (.dup2, 1) := by decide +kernel
theorem d_Disk_flipMapBit_21 : decode b_Disk_flipMapBit 21 = .ok (.laload, 1) := by decide +kernel
theorem d_Disk_flipMapBit_22 : decode b_Disk_flipMapBit 22 = .ok (.lconst 1, 1) := by decide +kernel
theorem d_Disk_flipMapBit_23 : decode b_Disk_flipMapBit 23 = .ok (.iload_n 1, 1) := by decide +kernel
theorem d_Disk_flipMapBit_24 : decode b_Disk_flipMapBit 24 = .ok (.bipush 64, 2) := by decide +kernel
theorem d_Disk_flipMapBit_26 : decode b_Disk_flipMapBit 26 = .ok (.irem, 1) := by decide +kernel
theorem d_Disk_flipMapBit_27 : decode b_Disk_flipMapBit 27 = .ok (.lshl, 1) := by decide +kernel
theorem d_Disk_flipMapBit_28 : decode b_Disk_flipMapBit 28 = .ok (.lxor, 1) := by decide +kernel
theorem d_Disk_flipMapBit_29 : decode b_Disk_flipMapBit 29 = .ok (.lastore, 1) := by decide +kernel
theorem d_Disk_flipMapBit_30 : decode b_Disk_flipMapBit 30 = .ok (.return_, 1) := by decide +kernel
set_option maxHeartbeats 4000000 in
set_option maxRecDepth 100000 in
theorem c_Disk_flipMapBit (l : Launch) (D : va_G) (g : Nat → Nat) (k : Nat → ClassId) (L : Nat) (hL0 : 96 ≤ L) (hL : L ≤ 768) (u : DSt) (b : Nat) (hb0 : b < L) : MuV l y_Disk_flipMapBit w_Disk_flipMapBit ({ frames := 2, cells := 0, slots := 0, locals := 81 }) [.ref (g 0), .int (nI b)] D cl5 (tyC k) (wD g k L u) (wD g k L (flp u b)) := by
  intro sz
  refine Met.ofW (cc := b_Disk_flipMapBit) (maxL := 2) (ret := none) (by decide) rfl ?_
  intro p e s m args below meth c s₁ B hml hv
  obtain ⟨rfl, hsz, hP, hK, hD0⟩ := hv
  have hx := B.exec
  have hb := B.bytes
  have hr := B.returns
  have hts := atoms_spec (ws := w_Disk_flipMapBit) B.pre
  have hTB : ∀ w ∈ lw_tb, w.before _ s = true := fun w h => hts w (List.mem_cons_of_mem _ h)
  have hown : s.vm.findClass R_Disk = some m.cls := findClass_of_methodNamed B.named
  have hlocks := B.notSynchronized
  subst hsz
  have hD := hD0.self (sz := s.heap.size)
  generalize hAe : va_A (wD g k L u) s.heap.size = A at hD ⊢
  have hA : ∀ q : Nat, s.heap.size ≤ q → A q := fun q h => by rw [← hAe]; exact Or.inr h
  have hS : va_S A s.heap s.heap [] := va_S.rf
  have hl := lv_entry ([.ref (g 0), .int (nI b)]) (n := 2) (Nat.le_of_ble_eq_true rfl)
  rw [lg_entry_eq]
  generalize (lg_sl ([.ref (g 0), .int (nI b)]) ++ List.replicate (2 - (lg_sl ([.ref (g 0), .int (nI b)])).length) Slot.unset).toArray = ls at hl ⊢
  have hl : lv_has ls 2 [(0, .ref (g 0)), (1, .int (nI b))] := hl
  refine lv_aload_n hx hb d_Disk_flipMapBit_0 rfl (lv_at hl 0 rfl) ?_
  refine lv_bipush (v := nI 57) hx hb d_Disk_flipMapBit_1 (by decide +kernel) ?_
  refine lv_iload_n hx hb d_Disk_flipMapBit_3 rfl (lv_at hl 1 rfl) ?_
  refine lv_sipush (v := nI 512) hx hb d_Disk_flipMapBit_4 (by decide +kernel) ?_
  refine gz_idiv hx hb d_Disk_flipMapBit_7 (by omega) (by decide) (by decide) ?_
  refine gz_iadd hx hb d_Disk_flipMapBit_8 ?_
  refine gz_muV (As := [.int (nI (57 + (b / 512)))]) (rest := []) (wc := (wD g k L u)) (w1 := (wD g k L (tch u (57 + (b / 512))))) (wr := ([])) ⟨hx, hb, hml, hown, hTB⟩ (c_Disk_touch l D g k L hL0 hL u (57 + (b / 512)) (by omega)) (cwV 1 hTB (gd_V k_82 k_84 k_1 k_52 k_85) rfl rfl rfl (by decide +kernel) ⟨Nat.le_of_ble_eq_true rfl, Nat.le_of_ble_eq_true rfl⟩) hK hP hD hA [0, 1, 2, 3, 4, 5] [] rfl rfl (by decide) rfl (by decide) (by decide) 0 rfl rfl rfl hl.1 rfl (Nat.le_of_ble_eq_true rfl) d_Disk_flipMapBit_9 ⟨Nat.zero_le _, Nat.zero_le _⟩ hS (fun H locs hP hD hS => ?_)
  have hP : va_P D cl5 (wD g k L (tch u (57 + (b / 512)))) H := hP
  have hD : va_D A (wD g k L (tch u (57 + (b / 512)))) := hD
  refine lv_aload_n hx hb d_Disk_flipMapBit_12 rfl (lv_at hl 0 rfl) ?_
  refine va_get (D := D) (ci := 1) (v := .ref (g 1)) (C := R_Disk) (T := T_Disk) (N := 7) hx hb hTB in_Disk hown hK hP 0 rfl rfl 1 (by decide) (hTB _ k_93) (fun _ h9 => h9) rfl d_Disk_flipMapBit_13 ?_
  refine lv_iload_n hx hb d_Disk_flipMapBit_16 rfl (lv_at hl 1 rfl) ?_
  refine gz_roS (As := [.int (nI b)]) (rest := [.ref (g 1)]) ⟨hx, hb, hml, hown, hTB⟩ (c_Disk_mapLongOf l b (by omega)) (cwS 1 hTB (gd_S k_89 k_90 k_52 k_91) rfl rfl rfl (by decide +kernel) ⟨Nat.le_of_ble_eq_true rfl, Nat.le_of_ble_eq_true rfl⟩) hP rfl hl.1 rfl (Nat.le_of_ble_eq_true rfl) d_Disk_flipMapBit_17 ⟨Nat.zero_le _, Nat.zero_le _⟩ hS (fun H locs hP hS => ?_)
  refine lv_dup2_11 hx hb d_Disk_flipMapBit_20 rfl rfl ?_
  refine gz_lald hx hb hK hP 1 0 rfl rfl (i := 456 + b / 64) (by omega) (by omega) d_Disk_flipMapBit_21 ?_
  refine lv_lconst (v := 1) hx hb d_Disk_flipMapBit_22 (by decide +kernel) ?_
  refine lv_iload_n hx hb d_Disk_flipMapBit_23 rfl (lv_at hl 1 rfl) ?_
  refine lv_bipush (v := nI 64) hx hb d_Disk_flipMapBit_24 (by decide +kernel) ?_
  refine gz_irem hx hb d_Disk_flipMapBit_26 (by omega) (by decide) (by decide) ?_
  refine lv_lshl hx hb d_Disk_flipMapBit_27 rfl ?_
  refine lv_lxor hx hb d_Disk_flipMapBit_28 ?_
  refine gz_last hx hb hK hP hD hS 1 0 rfl rfl (i := 456 + b / 64) (by omega) (by omega) d_Disk_flipMapBit_29 (fun H locs hP hD hS => ?_)
  have hP : va_P D cl5 (wD g k L (sNow (tch u (57 + (b / 512))) (va_up (dNow (tch u (57 + (b / 512)))) (456 + b / 64) ((dNow (tch u (57 + (b / 512))) (456 + b / 64)) ^^^ (1 <<< ((nI (b % 64)).toInt64 &&& 63)))))) H := hP
  have hD : va_D A (wD g k L (sNow (tch u (57 + (b / 512))) (va_up (dNow (tch u (57 + (b / 512)))) (456 + b / 64) ((dNow (tch u (57 + (b / 512))) (456 + b / 64)) ^^^ (1 <<< ((nI (b % 64)).toInt64 &&& 63)))))) := hD
  have hP9 : va_P D cl5 (wD g k L (flp u b)) H := (by unfold flp; rw [← tch_now u (57 + b / 512)]; exact hP)
  have hD9 : va_D A (wD g k L (flp u b)) := (by unfold flp; rw [← tch_now u (57 + b / 512)]; exact hD)
  exact W.vret hx hb hr (fun tt9 ht9 hW9 => ⟨⟨(), rfl, trivial, ⟨by rw [ht9]; exact hP9, hD9⟩⟩, hS.F ht9⟩) hS.2.2 d_Disk_flipMapBit_30
theorem d_Disk_copyBlock_0 : decode b_Disk_copyBlock 0 = .ok (.aload_n 0, 1) := by decide +kernel
theorem d_Disk_copyBlock_1 : decode b_Disk_copyBlock 1 = .ok (.iload_n 2, 1) := by decide +kernel
theorem d_Disk_copyBlock_2 : decode b_Disk_copyBlock 2 = .ok (.bipush 8, 2) := by decide +kernel
theorem d_Disk_copyBlock_4 : decode b_Disk_copyBlock 4 = .ok (.imul, 1) := by decide +kernel
theorem d_Disk_copyBlock_5 : decode b_Disk_copyBlock 5 = .ok (.aload_n 1, 1) := by decide +kernel
theorem d_Disk_copyBlock_6 : decode b_Disk_copyBlock 6 = .ok (.iload_n 2, 1) := by decide +kernel
theorem d_Disk_copyBlock_7 : decode b_Disk_copyBlock 7 = .ok (.bipush 8, 2) := by decide +kernel
theorem d_Disk_copyBlock_9 : decode b_Disk_copyBlock 9 = .ok (.imul, 1) := by decide +kernel
theorem d_Disk_copyBlock_10 : decode b_Disk_copyBlock 10 = .ok (.bipush 8, 2) := by decide +kernel
theorem d_Disk_copyBlock_12 : decode b_Disk_copyBlock 12 = .ok (.invokestatic 85, 3) := by decide +kernel
theorem d_Disk_copyBlock_15 : decode b_Disk_copyBlock 15 = .ok (.return_, 1) := by decide +kernel
set_option maxHeartbeats 4000000 in
set_option maxRecDepth 100000 in
theorem c_Disk_copyBlock (l : Launch) (D : va_G) (a0 a1 : Nat) (k : Nat → ClassId) (L : Nat) (hL0 : 96 ≤ L) (hL : L ≤ 768) (f g : Nat → Int64) (b : Nat) (hb0 : b < L) : MuV l y_Disk_copyBlock w_Disk_copyBlock ({ frames := 1, cells := 0, slots := 0, locals := 60 }) [.ref a0, .ref a1, .int (nI b)] D cl5 (tyC k) (wA a0 a1 k L f g) (wA a0 a1 k L f (cpB f g b)) := by
  intro sz
  refine Met.ofW (cc := b_Disk_copyBlock) (maxL := 3) (ret := none) (by decide) rfl ?_
  intro p e s m args below meth c s₁ B hml hv
  obtain ⟨rfl, hsz, hP, hK, hD0⟩ := hv
  have hx := B.exec
  have hb := B.bytes
  have hr := B.returns
  have hts := atoms_spec (ws := w_Disk_copyBlock) B.pre
  have hTB : ∀ w ∈ lw_tb, w.before _ s = true := fun w h => hts w (List.mem_cons_of_mem _ h)
  have hown : s.vm.findClass R_Disk = some m.cls := findClass_of_methodNamed B.named
  have hlocks := B.notSynchronized
  subst hsz
  have hD := hD0.self (sz := s.heap.size)
  generalize hAe : va_A (wA a0 a1 k L f g) s.heap.size = A at hD ⊢
  have hA : ∀ q : Nat, s.heap.size ≤ q → A q := fun q h => by rw [← hAe]; exact Or.inr h
  have hS : va_S A s.heap s.heap [] := va_S.rf
  have hl := lv_entry ([.ref a0, .ref a1, .int (nI b)]) (n := 3) (Nat.le_of_ble_eq_true rfl)
  rw [lg_entry_eq]
  generalize (lg_sl ([.ref a0, .ref a1, .int (nI b)]) ++ List.replicate (3 - (lg_sl ([.ref a0, .ref a1, .int (nI b)])).length) Slot.unset).toArray = ls at hl ⊢
  have hl : lv_has ls 3 [(0, .ref a0), (1, .ref a1), (2, .int (nI b))] := hl
  refine lv_aload_n hx hb d_Disk_copyBlock_0 rfl (lv_at hl 0 rfl) ?_
  refine lv_iload_n hx hb d_Disk_copyBlock_1 rfl (lv_at hl 2 rfl) ?_
  refine lv_bipush (v := nI 8) hx hb d_Disk_copyBlock_2 (by decide +kernel) ?_
  refine gz_imul hx hb d_Disk_copyBlock_4 ?_
  refine lv_aload_n hx hb d_Disk_copyBlock_5 rfl (lv_at hl 1 rfl) ?_
  refine lv_iload_n hx hb d_Disk_copyBlock_6 rfl (lv_at hl 2 rfl) ?_
  refine lv_bipush (v := nI 8) hx hb d_Disk_copyBlock_7 (by decide +kernel) ?_
  refine gz_imul hx hb d_Disk_copyBlock_9 ?_
  refine lv_bipush (v := nI 8) hx hb d_Disk_copyBlock_10 (by decide +kernel) ?_
  refine gz_copyl hx hb (hml.trans hl.1.symm) hown (hTB _ k_86) (hTB _ k_88) (hTB _ k_87) (hTB _ k_53) hK hP hD hS 0 1 0 0 rfl rfl rfl rfl (by omega) (by omega) (by omega) (by omega) (Nat.le_of_ble_eq_true rfl) (by decide +kernel) d_Disk_copyBlock_12 (fun H locs hP hD hS => ?_)
  have hP : va_P D cl5 (wA a0 a1 k L f (va_cpy (f) (g) (b * 8) (b * 8) 8)) H := hP
  have hD : va_D A (wA a0 a1 k L f (va_cpy (f) (g) (b * 8) (b * 8) 8)) := hD
  have hP9 : va_P D cl5 (wA a0 a1 k L f (cpB f g b)) H := hP
  have hD9 : va_D A (wA a0 a1 k L f (cpB f g b)) := hD
  exact W.vret hx hb hr (fun tt9 ht9 hW9 => ⟨⟨(), rfl, trivial, ⟨by rw [ht9]; exact hP9, hD9⟩⟩, hS.F ht9⟩) hS.2.2 d_Disk_copyBlock_15
theorem d_Disk_takeBlock_0 : decode b_Disk_takeBlock 0 = .ok (.aload_n 0, 1) := by decide +kernel
theorem d_Disk_takeBlock_1 : decode b_Disk_takeBlock 1 = .ok (.iload_n 1, 1) := by decide +kernel
theorem d_Disk_takeBlock_2 : decode b_Disk_takeBlock 2 = .ok (.invokevirtual 61, 3) := by decide +kernel
theorem d_Disk_takeBlock_5 : decode b_Disk_takeBlock 5 = .ok (.ifCond .eq 39, 3) := by decide +kernel
theorem d_Disk_takeBlock_8 : decode b_Disk_takeBlock 8 = .ok (.aload_n 0, 1) := by decide +kernel
theorem d_Disk_takeBlock_9 : decode b_Disk_takeBlock 9 = .ok (.iload_n 1, 1) := by decide +kernel
theorem d_Disk_takeBlock_10 : decode b_Disk_takeBlock 10 = .ok (.invokevirtual 47, 3) := by decide +kernel
theorem d_Disk_takeBlock_13 : decode b_Disk_takeBlock 13 = .ok (.iconst 0, 1) := by decide +kernel
theorem d_Disk_takeBlock_14 : decode b_Disk_takeBlock 14 = .ok (.istore_n 2, 1) := by decide +kernel
theorem d_Disk_takeBlock_15 : decode b_Disk_takeBlock 15 = .ok (.iload_n 2, 1) := by decide +kernel
theorem d_Disk_takeBlock_16 : decode b_Disk_takeBlock 16 = .ok (.bipush 8, 2) := by decide +kernel
theorem d_Disk_takeBlock_18 : decode b_Disk_takeBlock 18 = .ok (.if_icmp .ge 21, 3) := by decide +kernel
theorem d_Disk_takeBlock_21 : decode b_Disk_takeBlock 21 = .ok (.aload_n 0, 1) := by decide +kernel
theorem d_Disk_takeBlock_22 : decode b_Disk_takeBlock 22 = .ok (.getfield 15, 3) := by decide +kernel
theorem d_Disk_takeBlock_25 : decode b_Disk_takeBlock 25 = .ok (.iload_n 1, 1) := by decide +kernel
theorem d_Disk_takeBlock_26 : decode b_Disk_takeBlock 26 = .ok (.bipush 8, 2) := by decide +kernel
theorem d_Disk_takeBlock_28 : decode b_Disk_takeBlock 28 = .ok (.imul, 1) := by decide +kernel
theorem d_Disk_takeBlock_29 : decode b_Disk_takeBlock 29 = .ok (.iload_n 2, 1) := by decide +kernel
theorem d_Disk_takeBlock_30 : decode b_Disk_takeBlock 30 = .ok (.iadd, 1) := by decide +kernel
theorem d_Disk_takeBlock_31 : decode b_Disk_takeBlock 31 = .ok (.lconst 0, 1) := by decide +kernel
theorem d_Disk_takeBlock_32 : decode b_Disk_takeBlock 32 = .ok (.lastore, 1) := by decide +kernel
theorem d_Disk_takeBlock_33 : decode b_Disk_takeBlock 33 = .ok (.iinc 2 1, 3) := by decide +kernel
theorem d_Disk_takeBlock_36 : decode b_Disk_takeBlock 36 = .ok (.goto (-21), 3) := by decide +kernel
theorem d_Disk_takeBlock_39 : decode b_Disk_takeBlock 39 = .ok (.aload_n 0, 1) := by decide +kernel
theorem d_Disk_takeBlock_40 : decode b_Disk_takeBlock 40 = .ok (.iload_n 1, 1) := by decide +kernel
theorem d_Disk_takeBlock_41 : decode b_Disk_takeBlock 41 = .ok (.invokevirtual 35, 3) := by decide +kernel
theorem d_Disk_takeBlock_44 : decode b_Disk_takeBlock 44 = .ok (.return_, 1) := by decide +kernel
set_option maxHeartbeats 4000000 in
set_option maxRecDepth 100000 in
theorem c_Disk_takeBlock (l : Launch) (D : va_G) (g : Nat → Nat) (k : Nat → ClassId) (L : Nat) (hL0 : 96 ≤ L) (hL : L ≤ 768) (u : DSt) (x : Int32) : MuV l y_Disk_takeBlock w_Disk_takeBlock ({ frames := 3, cells := 0, slots := 0, locals := 102 }) [.ref (g 0), .int (x)] D cl5 (tyC k) (wD g k L u) (wD g k L (tkB L u x)) := by
  intro sz
  refine Met.ofW (cc := b_Disk_takeBlock) (maxL := 3) (ret := none) (by decide) rfl ?_
  intro p e s m args below meth c s₁ B hml hv
  obtain ⟨rfl, hsz, hP, hK, hD0⟩ := hv
  have hx := B.exec
  have hb := B.bytes
  have hr := B.returns
  have hts := atoms_spec (ws := w_Disk_takeBlock) B.pre
  have hTB : ∀ w ∈ lw_tb, w.before _ s = true := fun w h => hts w (List.mem_cons_of_mem _ h)
  have hown : s.vm.findClass R_Disk = some m.cls := findClass_of_methodNamed B.named
  have hlocks := B.notSynchronized
  subst hsz
  have hD := hD0.self (sz := s.heap.size)
  generalize hAe : va_A (wD g k L u) s.heap.size = A at hD ⊢
  have hA : ∀ q : Nat, s.heap.size ≤ q → A q := fun q h => by rw [← hAe]; exact Or.inr h
  have hS : va_S A s.heap s.heap [] := va_S.rf
  have hl := lv_entry ([.ref (g 0), .int (x)]) (n := 3) (Nat.le_of_ble_eq_true rfl)
  rw [lg_entry_eq]
  generalize (lg_sl ([.ref (g 0), .int (x)]) ++ List.replicate (3 - (lg_sl ([.ref (g 0), .int (x)])).length) Slot.unset).toArray = ls at hl ⊢
  have hl : lv_has ls 3 [(0, .ref (g 0)), (1, .int (x))] := hl
  refine lv_aload_n hx hb d_Disk_takeBlock_0 rfl (lv_at hl 0 rfl) ?_
  refine lv_iload_n hx hb d_Disk_takeBlock_1 rfl (lv_at hl 1 rfl) ?_
  refine gz_roV (As := [.int (x)]) (rest := []) (wc := (wD g k L u)) ⟨hx, hb, hml, hown, hTB⟩ (c_Disk_isFree l D g k L hL0 hL u x) (cwV 1 hTB (gd_V k_175 k_176 k_177 k_52 k_178) rfl rfl rfl (by decide +kernel) ⟨Nat.le_of_ble_eq_true rfl, Nat.le_of_ble_eq_true rfl⟩) hK hP [0, 1, 2, 3, 4, 5] rfl 0 rfl rfl rfl hl.1 rfl (Nat.le_of_ble_eq_true rfl) d_Disk_takeBlock_2 ⟨Nat.zero_le _, Nat.zero_le _⟩ hS (fun H locs hP hS => ?_)
  refine gz_ifz_eq (tgt := 44) hx hb d_Disk_takeBlock_5 (by decide) (fun h5 => ?_) (fun h5 => ?_)
  · have hP9 : va_P D cl5 (wD g k L (tkB L u x)) H := (by rw [tkB_no h5]; exact hP)
    have hD9 : va_D A (wD g k L (tkB L u x)) := (by rw [tkB_no h5]; exact hD)
    exact W.vret hx hb hr (fun tt9 ht9 hW9 => ⟨⟨(), rfl, trivial, ⟨by rw [ht9]; exact hP9, hD9⟩⟩, hS.F ht9⟩) hS.2.2 d_Disk_takeBlock_44
  · obtain ⟨q, hq, rfl⟩ := hsB_of (frB_has h5) hL
    refine lv_aload_n hx hb d_Disk_takeBlock_8 rfl (lv_at hl 0 rfl) ?_
    refine lv_iload_n hx hb d_Disk_takeBlock_9 rfl (lv_at hl 1 rfl) ?_
    refine gz_muV (As := [.int (nI q)]) (rest := []) (wc := (wD g k L u)) (w1 := (wD g k L (tch u q))) (wr := ([])) ⟨hx, hb, hml, hown, hTB⟩ (c_Disk_touch l D g k L hL0 hL u q (by omega)) (cwV 1 hTB (gd_V k_82 k_84 k_1 k_52 k_85) rfl rfl rfl (by decide +kernel) ⟨Nat.le_of_ble_eq_true rfl, Nat.le_of_ble_eq_true rfl⟩) hK hP hD hA [0, 1, 2, 3, 4, 5] [] rfl rfl (by decide) rfl (by decide) (by decide) 0 rfl rfl rfl hl.1 rfl (Nat.le_of_ble_eq_true rfl) d_Disk_takeBlock_10 ⟨Nat.zero_le _, Nat.zero_le _⟩ hS (fun H locs hP hD hS => ?_)
    have hP : va_P D cl5 (wD g k L (tch u q)) H := hP
    have hD : va_D A (wD g k L (tch u q)) := hD
    refine lv_iconst (v := nI 0) hx hb d_Disk_takeBlock_13 (by decide +kernel) ?_
    refine lv_istore_n (lv' := [(2, .int (nI 0)), (0, .ref (g 0)), (1, .int (nI q))]) hx hb d_Disk_takeBlock_14 rfl hl (by decide) rfl (fun ls hl => ?_)
    have hP : va_P D cl5 (wD g k L (sNow (tch u q) (zrB (dNow u) q 0))) H := by rw [zrB_0, ← tch_now u q]; exact hP
    have hD : va_D A (wD g k L (sNow (tch u q) (zrB (dNow u) q 0))) := by rw [zrB_0, ← tch_now u q]; exact hD
    refine gz_loop 15 (fun (zz : Nat) H locs ls => match zz with | i => va_P D cl5 (wD g k L (sNow (tch u q) (zrB (dNow u) q i))) H ∧ va_D A (wD g k L (sNow (tch u q) (zrB (dNow u) q i))) ∧ va_S A s.heap H locs ∧ lv_has ls 3 [(0, .ref (g 0)), (1, .int (nI q)), (2, .int (nI i))] ∧ (i ≤ 8)) (fun (zz : Nat) => match zz with | i => 8 - i) (fun zz H locs ls hI ih15 => ?_) (0) ⟨hP, hD, hS, lv_sub hl [1, 2, 0] rfl, (by omega)⟩
    obtain ⟨i, rfl⟩ : ∃ z, z = zz := ⟨_, rfl⟩
    obtain ⟨hP, hD, hS, hl, hi1⟩ := hI
    refine lv_iload_n hx hb d_Disk_takeBlock_15 rfl (lv_at hl 2 rfl) ?_
    refine lv_bipush (v := nI 8) hx hb d_Disk_takeBlock_16 (by decide +kernel) ?_
    refine gz_icmp_ge (tgt := 39) hx hb d_Disk_takeBlock_18 (by decide) (by omega) (by omega) (fun h18 => ?_) (fun h18 => ?_)
    · obtain rfl : i = 8 := by omega
      have hl := lv_sub hl [0, 1] rfl
      refine lv_aload_n hx hb d_Disk_takeBlock_39 rfl (lv_at hl 0 rfl) ?_
      refine lv_iload_n hx hb d_Disk_takeBlock_40 rfl (lv_at hl 1 rfl) ?_
      refine gz_muV (As := [.int (nI q)]) (rest := []) (wc := (wD g k L (sNow (tch u q) (zrB (dNow u) q 8)))) (w1 := (wD g k L (flp (sNow (tch u q) (zrB (dNow u) q 8)) q))) (wr := ([])) ⟨hx, hb, hml, hown, hTB⟩ (c_Disk_flipMapBit l D g k L hL0 hL (sNow (tch u q) (zrB (dNow u) q 8)) q (by omega)) (cwV 1 hTB (gd_V k_78 k_80 k_0 k_52 k_81) rfl rfl rfl (by decide +kernel) ⟨Nat.le_of_ble_eq_true rfl, Nat.le_of_ble_eq_true rfl⟩) hK hP hD hA [0, 1, 2, 3, 4, 5] [] rfl rfl (by decide) rfl (by decide) (by decide) 0 rfl rfl rfl hl.1 rfl (Nat.le_of_ble_eq_true rfl) d_Disk_takeBlock_41 ⟨Nat.zero_le _, Nat.zero_le _⟩ hS (fun H locs hP hD hS => ?_)
      have hP : va_P D cl5 (wD g k L (flp (sNow (tch u q) (zrB (dNow u) q 8)) q)) H := hP
      have hD : va_D A (wD g k L (flp (sNow (tch u q) (zrB (dNow u) q 8)) q)) := hD
      have hP9 : va_P D cl5 (wD g k L (tkB L u (nI q))) H := (by rw [tkB_in h5 (by omega)]; exact hP)
      have hD9 : va_D A (wD g k L (tkB L u (nI q))) := (by rw [tkB_in h5 (by omega)]; exact hD)
      exact W.vret hx hb hr (fun tt9 ht9 hW9 => ⟨⟨(), rfl, trivial, ⟨by rw [ht9]; exact hP9, hD9⟩⟩, hS.F ht9⟩) hS.2.2 d_Disk_takeBlock_44
    · refine lv_aload_n hx hb d_Disk_takeBlock_21 rfl (lv_at hl 0 rfl) ?_
      refine va_get (D := D) (ci := 1) (v := .ref (g 1)) (C := R_Disk) (T := T_Disk) (N := 7) hx hb hTB in_Disk hown hK hP 0 rfl rfl 1 (by decide) (hTB _ k_93) (fun _ h9 => h9) rfl d_Disk_takeBlock_22 ?_
      refine lv_iload_n hx hb d_Disk_takeBlock_25 rfl (lv_at hl 1 rfl) ?_
      refine lv_bipush (v := nI 8) hx hb d_Disk_takeBlock_26 (by decide +kernel) ?_
      refine gz_imul hx hb d_Disk_takeBlock_28 ?_
      refine lv_iload_n hx hb d_Disk_takeBlock_29 rfl (lv_at hl 2 rfl) ?_
      refine gz_iadd hx hb d_Disk_takeBlock_30 ?_
      refine lv_lconst (v := 0) hx hb d_Disk_takeBlock_31 (by decide +kernel) ?_
      refine gz_last hx hb hK hP hD hS 1 0 rfl rfl (i := (q * 8) + i) (by omega) (by omega) d_Disk_takeBlock_32 (fun H locs hP hD hS => ?_)
      have hP : va_P D cl5 (wD g k L (sNow (sNow (tch u q) (zrB (dNow u) q i)) (va_up (dNow (sNow (tch u q) (zrB (dNow u) q i))) ((q * 8) + i) 0))) H := hP
      have hD : va_D A (wD g k L (sNow (sNow (tch u q) (zrB (dNow u) q i)) (va_up (dNow (sNow (tch u q) (zrB (dNow u) q i))) ((q * 8) + i) 0))) := hD
      refine lv_iinc (v := nI (i + 1)) (lv' := [(2, .int (nI (i + 1))), (0, .ref (g 0)), (1, .int (nI q))]) hx hb d_Disk_takeBlock_33 hl (k := 2) rfl (nI_add i 1) (by decide) rfl (fun ls hl => ?_)
      refine lv_goto (tgt := 15) hx hb d_Disk_takeBlock_36 (by decide) ?_
      have hP : va_P D cl5 (wD g k L (sNow (tch u q) (zrB (dNow u) q (i + 1)))) H := by rw [← zrB_s]; exact hP
      have hD : va_D A (wD g k L (sNow (tch u q) (zrB (dNow u) q (i + 1)))) := by rw [← zrB_s]; exact hD
      exact ih15 (i + 1) _ _ _ (by first | omega | (dsimp only; omega)) ⟨hP, hD, hS, lv_sub hl [1, 2, 0] rfl, (by omega)⟩
theorem d_Disk_giveBlockBack_0 : decode b_Disk_giveBlockBack 0 = .ok (.aload_n 0, 1) := by decide +kernel
theorem d_Disk_giveBlockBack_1 : decode b_Disk_giveBlockBack 1 = .ok (.iload_n 1, 1) := by decide +kernel
theorem d_Disk_giveBlockBack_2 : decode b_Disk_giveBlockBack 2 = .ok (.invokevirtual 39, 3) := by decide +kernel
theorem d_Disk_giveBlockBack_5 : decode b_Disk_giveBlockBack 5 = .ok (.ifCond .eq 33, 3) := by decide +kernel
theorem d_Disk_giveBlockBack_8 : decode b_Disk_giveBlockBack 8 = .ok (.aload_n 0, 1) := by decide +kernel
theorem d_Disk_giveBlockBack_9 : decode b_Disk_giveBlockBack 9 = .ok (.iload_n 1, 1) := by decide +kernel
theorem d_Disk_giveBlockBack_10 : decode b_Disk_giveBlockBack 10 = .ok (.invokevirtual 61, 3) := by decide +kernel
theorem d_Disk_giveBlockBack_13 : decode b_Disk_giveBlockBack 13 = .ok (.ifCond .ne 25, 3) := by decide +kernel
theorem d_Disk_giveBlockBack_16 : decode b_Disk_giveBlockBack 16 = .ok (.aload_n 0, 1) := by decide +kernel
theorem d_Disk_giveBlockBack_17 : decode b_Disk_giveBlockBack 17 = .ok (.iload_n 1, 1) := by decide +kernel
theorem d_Disk_giveBlockBack_18 : decode b_Disk_giveBlockBack 18 = .ok (.invokevirtual 47, 3) := by decide +kernel
theorem d_Disk_giveBlockBack_21 : decode b_Disk_giveBlockBack 21 = .ok (.aload_n 0, 1) := by decide +kernel
theorem d_Disk_giveBlockBack_22 : decode b_Disk_giveBlockBack 22 = .ok (.getfield 19, 3) := by decide +kernel
theorem d_Disk_giveBlockBack_25 : decode b_Disk_giveBlockBack 25 = .ok (.aload_n 0, 1) := by decide +kernel
theorem d_Disk_giveBlockBack_26 : decode b_Disk_giveBlockBack 26 = .ok (.getfield 15, 3) := by decide +kernel
theorem d_Disk_giveBlockBack_29 : decode b_Disk_giveBlockBack 29 = .ok (.iload_n 1, 1) := by decide +kernel
theorem d_Disk_giveBlockBack_30 : decode b_Disk_giveBlockBack 30 = .ok (.invokestatic 64, 3) := by decide +kernel
theorem d_Disk_giveBlockBack_33 : decode b_Disk_giveBlockBack 33 = .ok (.aload_n 0, 1) := by decide +kernel
theorem d_Disk_giveBlockBack_34 : decode b_Disk_giveBlockBack 34 = .ok (.iload_n 1, 1) := by decide +kernel
theorem d_Disk_giveBlockBack_35 : decode b_Disk_giveBlockBack 35 = .ok (.invokevirtual 35, 3) := by decide +kernel
theorem d_Disk_giveBlockBack_38 : decode b_Disk_giveBlockBack 38 = .ok (.return_, 1) := by decide +kernel
set_option maxHeartbeats 4000000 in
set_option maxRecDepth 100000 in
theorem c_Disk_giveBlockBack (l : Launch) (D : va_G) (g : Nat → Nat) (k : Nat → ClassId) (L : Nat) (hL0 : 96 ≤ L) (hL : L ≤ 768) (u : DSt) (x : Int32) : MuV l y_Disk_giveBlockBack w_Disk_giveBlockBack ({ frames := 3, cells := 0, slots := 0, locals := 102 }) [.ref (g 0), .int (x)] D cl5 (tyC k) (wD g k L u) (wD g k L (gvB L u x)) := by
  intro sz
  refine Met.ofW (cc := b_Disk_giveBlockBack) (maxL := 2) (ret := none) (by decide) rfl ?_
  intro p e s m args below meth c s₁ B hml hv
  obtain ⟨rfl, hsz, hP, hK, hD0⟩ := hv
  have hx := B.exec
  have hb := B.bytes
  have hr := B.returns
  have hts := atoms_spec (ws := w_Disk_giveBlockBack) B.pre
  have hTB : ∀ w ∈ lw_tb, w.before _ s = true := fun w h => hts w (List.mem_cons_of_mem _ h)
  have hown : s.vm.findClass R_Disk = some m.cls := findClass_of_methodNamed B.named
  have hlocks := B.notSynchronized
  subst hsz
  have hD := hD0.self (sz := s.heap.size)
  generalize hAe : va_A (wD g k L u) s.heap.size = A at hD ⊢
  have hA : ∀ q : Nat, s.heap.size ≤ q → A q := fun q h => by rw [← hAe]; exact Or.inr h
  have hS : va_S A s.heap s.heap [] := va_S.rf
  have hl := lv_entry ([.ref (g 0), .int (x)]) (n := 2) (Nat.le_of_ble_eq_true rfl)
  rw [lg_entry_eq]
  generalize (lg_sl ([.ref (g 0), .int (x)]) ++ List.replicate (2 - (lg_sl ([.ref (g 0), .int (x)])).length) Slot.unset).toArray = ls at hl ⊢
  have hl : lv_has ls 2 [(0, .ref (g 0)), (1, .int (x))] := hl
  refine lv_aload_n hx hb d_Disk_giveBlockBack_0 rfl (lv_at hl 0 rfl) ?_
  refine lv_iload_n hx hb d_Disk_giveBlockBack_1 rfl (lv_at hl 1 rfl) ?_
  refine gz_roV (As := [.int (x)]) (rest := []) (wc := (wD g k L u)) ⟨hx, hb, hml, hown, hTB⟩ (c_Disk_hasBlock l D g k L hL0 hL u x) (cwV 1 hTB (gd_V k_179 k_181 k_4 k_52 k_182) rfl rfl rfl (by decide +kernel) ⟨Nat.le_of_ble_eq_true rfl, Nat.le_of_ble_eq_true rfl⟩) hK hP [0, 1, 2, 3, 4, 5] rfl 0 rfl rfl rfl hl.1 rfl (Nat.le_of_ble_eq_true rfl) d_Disk_giveBlockBack_2 ⟨Nat.zero_le _, Nat.zero_le _⟩ hS (fun H locs hP hS => ?_)
  refine gz_ifz_eq (tgt := 38) hx hb d_Disk_giveBlockBack_5 (by decide) (fun h5 => ?_) (fun h5 => ?_)
  · have hP9 : va_P D cl5 (wD g k L (gvB L u x)) H := (by rw [gvB_no h5]; exact hP)
    have hD9 : va_D A (wD g k L (gvB L u x)) := (by rw [gvB_no h5]; exact hD)
    exact W.vret hx hb hr (fun tt9 ht9 hW9 => ⟨⟨(), rfl, trivial, ⟨by rw [ht9]; exact hP9, hD9⟩⟩, hS.F ht9⟩) hS.2.2 d_Disk_giveBlockBack_38
  · obtain ⟨q, hq, rfl⟩ := hsB_of h5 hL
    refine lv_aload_n hx hb d_Disk_giveBlockBack_8 rfl (lv_at hl 0 rfl) ?_
    refine lv_iload_n hx hb d_Disk_giveBlockBack_9 rfl (lv_at hl 1 rfl) ?_
    refine gz_roV (As := [.int (nI q)]) (rest := []) (wc := (wD g k L u)) ⟨hx, hb, hml, hown, hTB⟩ (c_Disk_isFree l D g k L hL0 hL u (nI q)) (cwV 1 hTB (gd_V k_175 k_176 k_177 k_52 k_178) rfl rfl rfl (by decide +kernel) ⟨Nat.le_of_ble_eq_true rfl, Nat.le_of_ble_eq_true rfl⟩) hK hP [0, 1, 2, 3, 4, 5] rfl 0 rfl rfl rfl hl.1 rfl (Nat.le_of_ble_eq_true rfl) d_Disk_giveBlockBack_10 ⟨Nat.zero_le _, Nat.zero_le _⟩ hS (fun H locs hP hS => ?_)
    refine gz_ifz_ne (tgt := 38) hx hb d_Disk_giveBlockBack_13 (by decide) (fun h13 => ?_) (fun h13 => ?_)
    · have hP9 : va_P D cl5 (wD g k L (gvB L u (nI q))) H := (by rw [gvB_fr h13]; exact hP)
      have hD9 : va_D A (wD g k L (gvB L u (nI q))) := (by rw [gvB_fr h13]; exact hD)
      exact W.vret hx hb hr (fun tt9 ht9 hW9 => ⟨⟨(), rfl, trivial, ⟨by rw [ht9]; exact hP9, hD9⟩⟩, hS.F ht9⟩) hS.2.2 d_Disk_giveBlockBack_38
    · refine lv_aload_n hx hb d_Disk_giveBlockBack_16 rfl (lv_at hl 0 rfl) ?_
      refine lv_iload_n hx hb d_Disk_giveBlockBack_17 rfl (lv_at hl 1 rfl) ?_
      refine gz_muV (As := [.int (nI q)]) (rest := []) (wc := (wD g k L u)) (w1 := (wD g k L (tch u q))) (wr := ([])) ⟨hx, hb, hml, hown, hTB⟩ (c_Disk_touch l D g k L hL0 hL u q (by omega)) (cwV 1 hTB (gd_V k_82 k_84 k_1 k_52 k_85) rfl rfl rfl (by decide +kernel) ⟨Nat.le_of_ble_eq_true rfl, Nat.le_of_ble_eq_true rfl⟩) hK hP hD hA [0, 1, 2, 3, 4, 5] [] rfl rfl (by decide) rfl (by decide) (by decide) 0 rfl rfl rfl hl.1 rfl (Nat.le_of_ble_eq_true rfl) d_Disk_giveBlockBack_18 ⟨Nat.zero_le _, Nat.zero_le _⟩ hS (fun H locs hP hD hS => ?_)
      have hP : va_P D cl5 (wD g k L (tch u q)) H := hP
      have hD : va_D A (wD g k L (tch u q)) := hD
      refine lv_aload_n hx hb d_Disk_giveBlockBack_21 rfl (lv_at hl 0 rfl) ?_
      refine va_get (D := D) (ci := 1) (v := .ref (g 2)) (C := R_Disk) (T := T_Disk) (N := 7) hx hb hTB in_Disk hown hK hP 0 rfl rfl 2 (by decide) (hTB _ k_94) (fun _ h9 => h9) rfl d_Disk_giveBlockBack_22 ?_
      refine lv_aload_n hx hb d_Disk_giveBlockBack_25 rfl (lv_at hl 0 rfl) ?_
      refine va_get (D := D) (ci := 1) (v := .ref (g 1)) (C := R_Disk) (T := T_Disk) (N := 7) hx hb hTB in_Disk hown hK hP 0 rfl rfl 1 (by decide) (hTB _ k_93) (fun _ h9 => h9) rfl d_Disk_giveBlockBack_26 ?_
      refine lv_iload_n hx hb d_Disk_giveBlockBack_29 rfl (lv_at hl 1 rfl) ?_
      refine gz_muS (As := [.ref (g 2), .ref (g 1), .int (nI q)]) (rest := []) (wc := (wA (g 2) (g 1) k L (dCom (tch u q)) (dNow (tch u q)))) (w1 := (wA (g 2) (g 1) k L (dCom (tch u q)) (cpB (dCom (tch u q)) (dNow (tch u q)) q))) (wr := [(g 0, .inr (1, [.int (nI L), .ref (g 1), .ref (g 2), .ref (g 3), .ref (g 4), .ref (g 5), .int (dEa (tch u q))])), (g 3, .inl (k 0, L * 8, .inr (.inl (dBef (tch u q))))), (g 4, .inl (k 1, L, .inl (fun j => zI (dTou (tch u q) j)))), (g 5, .inl (k 1, L, .inl (fun j => zI (dDif (tch u q) j))))]) ⟨hx, hb, hml, hown, hTB⟩ (c_Disk_copyBlock l D (g 2) (g 1) k L hL0 hL (dCom (tch u q)) (dNow (tch u q)) q (by omega)) (cwS 3 hTB (gd_S k_172 k_173 k_52 k_174) rfl rfl rfl (by decide +kernel) ⟨Nat.le_of_ble_eq_true rfl, Nat.le_of_ble_eq_true rfl⟩) hK hP hD hA [2, 1] [0, 3, 4, 5] rfl rfl (by decide) rfl (by decide) (by decide) rfl hl.1 rfl (Nat.le_of_ble_eq_true rfl) d_Disk_giveBlockBack_30 ⟨Nat.zero_le _, Nat.zero_le _⟩ hS (fun H locs hP hD hS => ?_)
      have hP : va_P D cl5 (wD g k L (sNow (tch u q) (cpB (dCom (tch u q)) (dNow (tch u q)) q))) H := hP.sub [0, 5, 4, 1, 2, 3] rfl
      have hD : va_D A (wD g k L (sNow (tch u q) (cpB (dCom (tch u q)) (dNow (tch u q)) q))) := hD.sub [0, 5, 4, 1, 2, 3] (by decide) rfl
      refine lv_aload_n hx hb d_Disk_giveBlockBack_33 rfl (lv_at hl 0 rfl) ?_
      refine lv_iload_n hx hb d_Disk_giveBlockBack_34 rfl (lv_at hl 1 rfl) ?_
      refine gz_muV (As := [.int (nI q)]) (rest := []) (wc := (wD g k L (sNow (tch u q) (cpB (dCom (tch u q)) (dNow (tch u q)) q)))) (w1 := (wD g k L (flp (sNow (tch u q) (cpB (dCom (tch u q)) (dNow (tch u q)) q)) q))) (wr := ([])) ⟨hx, hb, hml, hown, hTB⟩ (c_Disk_flipMapBit l D g k L hL0 hL (sNow (tch u q) (cpB (dCom (tch u q)) (dNow (tch u q)) q)) q (by omega)) (cwV 1 hTB (gd_V k_78 k_80 k_0 k_52 k_81) rfl rfl rfl (by decide +kernel) ⟨Nat.le_of_ble_eq_true rfl, Nat.le_of_ble_eq_true rfl⟩) hK hP hD hA [0, 1, 2, 3, 4, 5] [] rfl rfl (by decide) rfl (by decide) (by decide) 0 rfl rfl rfl hl.1 rfl (Nat.le_of_ble_eq_true rfl) d_Disk_giveBlockBack_35 ⟨Nat.zero_le _, Nat.zero_le _⟩ hS (fun H locs hP hD hS => ?_)
      have hP : va_P D cl5 (wD g k L (flp (sNow (tch u q) (cpB (dCom (tch u q)) (dNow (tch u q)) q)) q)) H := hP
      have hD : va_D A (wD g k L (flp (sNow (tch u q) (cpB (dCom (tch u q)) (dNow (tch u q)) q)) q)) := hD
      have hP9 : va_P D cl5 (wD g k L (gvB L u (nI q))) H := (by rw [gvB_in h5 h13 (by omega)]; unfold gvN; rw [← tch_now u q, ← tch_com u q]; exact hP)
      have hD9 : va_D A (wD g k L (gvB L u (nI q))) := (by rw [gvB_in h5 h13 (by omega)]; unfold gvN; rw [← tch_now u q, ← tch_com u q]; exact hD)
      exact W.vret hx hb hr (fun tt9 ht9 hW9 => ⟨⟨(), rfl, trivial, ⟨by rw [ht9]; exact hP9, hD9⟩⟩, hS.F ht9⟩) hS.2.2 d_Disk_giveBlockBack_38
theorem d_Disk_compare_0 : decode b_Disk_compare 0 = .ok (.iconst 0, 1) := by decide +kernel
theorem d_Disk_compare_1 : decode b_Disk_compare 1 = .ok (.istore_n 2, 1) := by decide +kernel
theorem d_Disk_compare_2 : decode b_Disk_compare 2 = .ok (.iconst 0, 1) := by decide +kernel
theorem d_Disk_compare_3 : decode b_Disk_compare 3 = .ok (.istore_n 3, 1) := by decide +kernel
theorem d_Disk_compare_4 : decode b_Disk_compare 4 = .ok (.iload_n 3, 1) := by decide +kernel
theorem d_Disk_compare_5 : decode b_Disk_compare 5 = .ok (.bipush 8, 2) := by decide +kernel
theorem d_Disk_compare_7 : decode b_Disk_compare 7 = .ok (.if_icmp .ge 45, 3) := by decide +kernel
theorem d_Disk_compare_10 : decode b_Disk_compare 10 = .ok (.iload_n 1, 1) := by decide +kernel
theorem d_Disk_compare_11 : decode b_Disk_compare 11 = .ok (.bipush 8, 2) := by decide +kernel
theorem d_Disk_compare_13 : decode b_Disk_compare 13 = .ok (.imul, 1) := by decide +kernel
theorem d_Disk_compare_14 : decode b_Disk_compare 14 = .ok (.iload_n 3, 1) := by decide +kernel
theorem d_Disk_compare_15 : decode b_Disk_compare 15 = .ok (.iadd, 1) := by decide +kernel
theorem d_Disk_compare_16 : decode b_Disk_compare 16 = .ok (.istore 4, 2) := by decide +kernel
theorem d_Disk_compare_18 : decode b_Disk_compare 18 = .ok (.iload_n 2, 1) := by decide +kernel
theorem d_Disk_compare_19 : decode b_Disk_compare 19 = .ok (.ifCond .ne 21, 3) := by decide +kernel
theorem d_Disk_compare_22 : decode b_Disk_compare 22 = .ok (.aload_n 0, 1) := by decide +kernel
theorem d_Disk_compare_23 : decode b_Disk_compare 23 = .ok (.getfield 15, 3) := by decide +kernel
theorem d_Disk_compare_26 : decode b_Disk_compare 26 = .ok (.iload 4, 2) := by decide +kernel
theorem d_Disk_compare_28 : decode b_Disk_compare 28 = .ok (.laload, 1) := by decide +kernel
theorem d_Disk_compare_29 : decode b_Disk_compare 29 = .ok (.aload_n 0, 1) := by decide +kernel
theorem d_Disk_compare_30 : decode b_Disk_compare 30 = .ok (.getfield 19, 3) := by decide +kernel
theorem d_Disk_compare_33 : decode b_Disk_compare 33 = .ok (.iload 4, 2) := by decide +kernel
theorem d_Disk_compare_35 : decode b_Disk_compare 35 = .ok (.laload, 1) := by decide +kernel
theorem d_Disk_compare_36 : decode b_Disk_compare 36 = .ok (.lcmp, 1) := by decide +kernel
theorem d_Disk_compare_37 : decode b_Disk_compare 37 = .ok (.ifCond .eq 7, 3) := by decide +kernel
theorem d_Disk_compare_40 : decode b_Disk_compare 40 = .ok (.iconst 1, 1) := by decide +kernel
theorem d_Disk_compare_41 : decode b_Disk_compare 41 = .ok (.goto 4, 3) := by decide +kernel
theorem d_Disk_compare_44 : decode b_Disk_compare 44 = .ok (.iconst 0, 1) := by decide +kernel
theorem d_Disk_compare_45 : decode b_Disk_compare 45 = .ok (.istore_n 2, 1) := by decide +kernel
theorem d_Disk_compare_46 : decode b_Disk_compare 46 = .ok (.iinc 3 1, 3) := by decide +kernel
theorem d_Disk_compare_49 : decode b_Disk_compare 49 = .ok (.goto (-45), 3) := by decide +kernel
theorem d_Disk_compare_52 : decode b_Disk_compare 52 = .ok (.aload_n 0, 1) := by decide +kernel
theorem d_Disk_compare_53 : decode b_Disk_compare 53 = .ok (.getfield 29, 3) := by decide +kernel
theorem d_Disk_compare_56 : decode b_Disk_compare 56 = .ok (.iload_n 1, 1) := by decide +kernel
theorem d_Disk_compare_57 : decode b_Disk_compare 57 = .ok (.iload_n 2, 1) := by decide +kernel
theorem d_Disk_compare_58 : decode b_Disk_compare 58 = .ok (.bastore, 1) := by decide +kernel
theorem d_Disk_compare_59 : decode b_Disk_compare 59 = .ok (.return_, 1) := by decide +kernel
set_option maxHeartbeats 4000000 in
set_option maxRecDepth 100000 in
theorem c_Disk_compare (l : Launch) (D : va_G) (g : Nat → Nat) (k : Nat → ClassId) (L : Nat) (hL0 : 96 ≤ L) (hL : L ≤ 768) (u : DSt) (b : Nat) (hb0 : b < L) : MuV l y_Disk_compare w_Disk_compare ({ frames := 0, cells := 0, slots := 0, locals := 0 }) [.ref (g 0), .int (nI b)] D cl5 (tyC k) (wD g k L u) (wD g k L (cmp u b)) := by
  intro sz
  refine Met.ofW (cc := b_Disk_compare) (maxL := 5) (ret := none) (by decide) rfl ?_
  intro p e s m args below meth c s₁ B hml hv
  obtain ⟨rfl, hsz, hP, hK, hD0⟩ := hv
  have hx := B.exec
  have hb := B.bytes
  have hr := B.returns
  have hts := atoms_spec (ws := w_Disk_compare) B.pre
  have hTB : ∀ w ∈ lw_tb, w.before _ s = true := fun w h => hts w (List.mem_cons_of_mem _ h)
  have hown : s.vm.findClass R_Disk = some m.cls := findClass_of_methodNamed B.named
  have hlocks := B.notSynchronized
  subst hsz
  have hD := hD0.self (sz := s.heap.size)
  generalize hAe : va_A (wD g k L u) s.heap.size = A at hD ⊢
  have hA : ∀ q : Nat, s.heap.size ≤ q → A q := fun q h => by rw [← hAe]; exact Or.inr h
  have hS : va_S A s.heap s.heap [] := va_S.rf
  have hl := lv_entry ([.ref (g 0), .int (nI b)]) (n := 5) (Nat.le_of_ble_eq_true rfl)
  rw [lg_entry_eq]
  generalize (lg_sl ([.ref (g 0), .int (nI b)]) ++ List.replicate (5 - (lg_sl ([.ref (g 0), .int (nI b)])).length) Slot.unset).toArray = ls at hl ⊢
  have hl : lv_has ls 5 [(0, .ref (g 0)), (1, .int (nI b))] := hl
  refine lv_iconst (v := nI 0) hx hb d_Disk_compare_0 (by decide +kernel) ?_
  refine lv_istore_n (lv' := [(2, .int (nI 0)), (0, .ref (g 0)), (1, .int (nI b))]) hx hb d_Disk_compare_1 rfl hl (by decide) rfl (fun ls hl => ?_)
  refine lv_iconst (v := nI 0) hx hb d_Disk_compare_2 (by decide +kernel) ?_
  refine lv_istore_n (lv' := [(3, .int (nI 0)), (2, .int (nI 0)), (0, .ref (g 0)), (1, .int (nI b))]) hx hb d_Disk_compare_3 rfl hl (by decide) rfl (fun ls hl => ?_)
  refine gz_loop 4 (fun (zz : Nat) H locs ls => match zz with | i => va_P D cl5 (wD g k L u) H ∧ va_D A (wD g k L u) ∧ va_S A s.heap H locs ∧ lv_has ls 5 [(0, .ref (g 0)), (1, .int (nI b)), (2, .int (zI (dfI (dNow u) (dCom u) b i))), (3, .int (nI i))] ∧ (i ≤ 8)) (fun (zz : Nat) => match zz with | i => 8 - i) (fun zz H locs ls hI ih4 => ?_) (0) ⟨hP, hD, hS, lv_sub hl [2, 3, 1, 0] rfl, (by omega)⟩
  obtain ⟨i, rfl⟩ : ∃ z, z = zz := ⟨_, rfl⟩
  obtain ⟨hP, hD, hS, hl, hi1⟩ := hI
  refine lv_iload_n hx hb d_Disk_compare_4 rfl (lv_at hl 3 rfl) ?_
  refine lv_bipush (v := nI 8) hx hb d_Disk_compare_5 (by decide +kernel) ?_
  refine gz_icmp_ge (tgt := 52) hx hb d_Disk_compare_7 (by decide) (by omega) (by omega) (fun h7 => ?_) (fun h7 => ?_)
  · obtain rfl : i = 8 := by omega
    have hl := lv_sub hl [0, 1, 2] rfl
    refine lv_aload_n hx hb d_Disk_compare_52 rfl (lv_at hl 0 rfl) ?_
    refine va_get (D := D) (ci := 1) (v := .ref (g 5)) (C := R_Disk) (T := T_Disk) (N := 7) hx hb hTB in_Disk hown hK hP 0 rfl rfl 5 (by decide) (hTB _ k_97) (fun _ h9 => h9) rfl d_Disk_compare_53 ?_
    refine lv_iload_n hx hb d_Disk_compare_56 rfl (lv_at hl 1 rfl) ?_
    refine lv_iload_n hx hb d_Disk_compare_57 rfl (lv_at hl 2 rfl) ?_
    refine gz_zast hx hb hK hP hD hS 5 1 rfl rfl (i := b) (dfI (dNow u) (dCom u) b 8) rfl (by omega) (by omega) d_Disk_compare_58 (fun H locs hP hD hS => ?_)
    have hP : va_P D cl5 (wD g k L (sDif u (va_up (dDif u) b (dfI (dNow u) (dCom u) b 8)))) H := hP
    have hD : va_D A (wD g k L (sDif u (va_up (dDif u) b (dfI (dNow u) (dCom u) b 8)))) := hD
    have hP9 : va_P D cl5 (wD g k L (cmp u b)) H := hP
    have hD9 : va_D A (wD g k L (cmp u b)) := hD
    exact W.vret hx hb hr (fun tt9 ht9 hW9 => ⟨⟨(), rfl, trivial, ⟨by rw [ht9]; exact hP9, hD9⟩⟩, hS.F ht9⟩) hS.2.2 d_Disk_compare_59
  · refine lv_iload_n hx hb d_Disk_compare_10 rfl (lv_at hl 1 rfl) ?_
    refine lv_bipush (v := nI 8) hx hb d_Disk_compare_11 (by decide +kernel) ?_
    refine gz_imul hx hb d_Disk_compare_13 ?_
    refine lv_iload_n hx hb d_Disk_compare_14 rfl (lv_at hl 3 rfl) ?_
    refine gz_iadd hx hb d_Disk_compare_15 ?_
    refine lv_istore (lv' := [(4, .int (nI ((b * 8) + i))), (0, .ref (g 0)), (1, .int (nI b)), (2, .int (zI (dfI (dNow u) (dCom u) b i))), (3, .int (nI i))]) hx hb d_Disk_compare_16 hl (by decide) rfl (fun ls hl => ?_)
    refine lv_iload_n hx hb d_Disk_compare_18 rfl (lv_at hl 3 rfl) ?_
    refine gz_ifz_ne (tgt := 40) hx hb d_Disk_compare_19 (by decide) (fun h19 => ?_) (fun h19 => ?_)
    · refine lv_iconst (v := nI 1) hx hb d_Disk_compare_40 (by decide +kernel) ?_
      refine lv_goto (tgt := 45) hx hb d_Disk_compare_41 (by decide) ?_
      refine lv_istore_n (lv' := [(2, .int (nI 1)), (4, .int (nI ((b * 8) + i))), (0, .ref (g 0)), (1, .int (nI b)), (3, .int (nI i))]) hx hb d_Disk_compare_45 rfl hl (by decide) rfl (fun ls hl => ?_)
      refine lv_iinc (v := nI (i + 1)) (lv' := [(3, .int (nI (i + 1))), (2, .int (nI 1)), (4, .int (nI ((b * 8) + i))), (0, .ref (g 0)), (1, .int (nI b))]) hx hb d_Disk_compare_46 hl (k := 4) rfl (nI_add i 1) (by decide) rfl (fun ls hl => ?_)
      refine lv_goto (tgt := 4) hx hb d_Disk_compare_49 (by decide) ?_
      have hl : lv_has ls 5 [(3, .int (nI (i + 1))), (2, .int (zI (dfI (dNow u) (dCom u) b (i + 1)))), (4, .int (nI ((b * 8) + i))), (0, .ref (g 0)), (1, .int (nI b))] := by first | (rw [dfI_t1 h19]; exact hl) | (rw [dfI_t2 h37]; exact hl) | (rw [dfI_f h19 h37]; exact hl)
      exact ih4 (i + 1) _ _ _ (by first | omega | (dsimp only; omega)) ⟨hP, hD, hS, lv_sub hl [3, 4, 1, 0] rfl, (by omega)⟩
    · refine lv_aload_n hx hb d_Disk_compare_22 rfl (lv_at hl 1 rfl) ?_
      refine va_get (D := D) (ci := 1) (v := .ref (g 1)) (C := R_Disk) (T := T_Disk) (N := 7) hx hb hTB in_Disk hown hK hP 0 rfl rfl 1 (by decide) (hTB _ k_93) (fun _ h9 => h9) rfl d_Disk_compare_23 ?_
      refine lv_iload hx hb d_Disk_compare_26 (lv_at hl 0 rfl) ?_
      refine gz_lald hx hb hK hP 1 0 rfl rfl (i := (b * 8) + i) (by omega) (by omega) d_Disk_compare_28 ?_
      refine lv_aload_n hx hb d_Disk_compare_29 rfl (lv_at hl 1 rfl) ?_
      refine va_get (D := D) (ci := 1) (v := .ref (g 2)) (C := R_Disk) (T := T_Disk) (N := 7) hx hb hTB in_Disk hown hK hP 0 rfl rfl 2 (by decide) (hTB _ k_94) (fun _ h9 => h9) rfl d_Disk_compare_30 ?_
      refine lv_iload hx hb d_Disk_compare_33 (lv_at hl 0 rfl) ?_
      refine gz_lald hx hb hK hP 2 0 rfl rfl (i := (b * 8) + i) (by omega) (by omega) d_Disk_compare_35 ?_
      refine W.lcmp hx hb d_Disk_compare_36 ?_
      refine lv_if_eq (tgt := 44) hx hb d_Disk_compare_37 (by decide) (fun h37 => ?_) (fun h37 => ?_)
      · refine lv_iconst (v := nI 0) hx hb d_Disk_compare_44 (by decide +kernel) ?_
        refine lv_istore_n (lv' := [(2, .int (nI 0)), (4, .int (nI ((b * 8) + i))), (0, .ref (g 0)), (1, .int (nI b)), (3, .int (nI i))]) hx hb d_Disk_compare_45 rfl hl (by decide) rfl (fun ls hl => ?_)
        refine lv_iinc (v := nI (i + 1)) (lv' := [(3, .int (nI (i + 1))), (2, .int (nI 0)), (4, .int (nI ((b * 8) + i))), (0, .ref (g 0)), (1, .int (nI b))]) hx hb d_Disk_compare_46 hl (k := 4) rfl (nI_add i 1) (by decide) rfl (fun ls hl => ?_)
        refine lv_goto (tgt := 4) hx hb d_Disk_compare_49 (by decide) ?_
        have hl : lv_has ls 5 [(3, .int (nI (i + 1))), (2, .int (zI (dfI (dNow u) (dCom u) b (i + 1)))), (4, .int (nI ((b * 8) + i))), (0, .ref (g 0)), (1, .int (nI b))] := by first | (rw [dfI_t1 h19]; exact hl) | (rw [dfI_t2 h37]; exact hl) | (rw [dfI_f h19 h37]; exact hl)
        exact ih4 (i + 1) _ _ _ (by first | omega | (dsimp only; omega)) ⟨hP, hD, hS, lv_sub hl [3, 4, 1, 0] rfl, (by omega)⟩
      · refine lv_iconst (v := nI 1) hx hb d_Disk_compare_40 (by decide +kernel) ?_
        refine lv_goto (tgt := 45) hx hb d_Disk_compare_41 (by decide) ?_
        refine lv_istore_n (lv' := [(2, .int (nI 1)), (4, .int (nI ((b * 8) + i))), (0, .ref (g 0)), (1, .int (nI b)), (3, .int (nI i))]) hx hb d_Disk_compare_45 rfl hl (by decide) rfl (fun ls hl => ?_)
        refine lv_iinc (v := nI (i + 1)) (lv' := [(3, .int (nI (i + 1))), (2, .int (nI 1)), (4, .int (nI ((b * 8) + i))), (0, .ref (g 0)), (1, .int (nI b))]) hx hb d_Disk_compare_46 hl (k := 4) rfl (nI_add i 1) (by decide) rfl (fun ls hl => ?_)
        refine lv_goto (tgt := 4) hx hb d_Disk_compare_49 (by decide) ?_
        have hl : lv_has ls 5 [(3, .int (nI (i + 1))), (2, .int (zI (dfI (dNow u) (dCom u) b (i + 1)))), (4, .int (nI ((b * 8) + i))), (0, .ref (g 0)), (1, .int (nI b))] := by first | (rw [dfI_t1 h19]; exact hl) | (rw [dfI_t2 h37]; exact hl) | (rw [dfI_f h19 h37]; exact hl)
        exact ih4 (i + 1) _ _ _ (by first | omega | (dsimp only; omega)) ⟨hP, hD, hS, lv_sub hl [3, 4, 1, 0] rfl, (by omega)⟩
theorem d_Disk_forgetTouched_0 : decode b_Disk_forgetTouched 0 = .ok (.iconst 0, 1) := by decide +kernel
theorem d_Disk_forgetTouched_1 : decode b_Disk_forgetTouched 1 = .ok (.istore_n 1, 1) := by decide +kernel
theorem d_Disk_forgetTouched_2 : decode b_Disk_forgetTouched 2 = .ok (.iload_n 1, 1) := by decide +kernel
theorem d_Disk_forgetTouched_3 : decode b_Disk_forgetTouched 3 = .ok (.aload_n 0, 1) := by decide +kernel
theorem d_Disk_forgetTouched_4 : decode b_Disk_forgetTouched 4 = .ok (.getfield 9, 3) := by decide +kernel
theorem d_Disk_forgetTouched_7 : decode b_Disk_forgetTouched 7 = .ok (.if_icmp .ge 16, 3) := by decide +kernel
theorem d_Disk_forgetTouched_10 : decode b_Disk_forgetTouched 10 = .ok (.aload_n 0, 1) := by decide +kernel
theorem d_Disk_forgetTouched_11 : decode b_Disk_forgetTouched 11 = .ok (.getfield 25, 3) := by decide +kernel
theorem d_Disk_forgetTouched_14 : decode b_Disk_forgetTouched 14 = .ok (.iload_n 1, 1) := by decide +kernel
theorem d_Disk_forgetTouched_15 : decode b_Disk_forgetTouched 15 = .ok (.iconst 0, 1) := by decide +kernel
theorem d_Disk_forgetTouched_16 : decode b_Disk_forgetTouched 16 = .ok (.bastore, 1) := by decide +kernel
theorem d_Disk_forgetTouched_17 : decode b_Disk_forgetTouched 17 = .ok (.iinc 1 1, 3) := by decide +kernel
theorem d_Disk_forgetTouched_20 : decode b_Disk_forgetTouched 20 = .ok (.goto (-18), 3) := by decide +kernel
theorem d_Disk_forgetTouched_23 : decode b_Disk_forgetTouched 23 = .ok (.return_, 1) := by decide +kernel
set_option maxHeartbeats 4000000 in
set_option maxRecDepth 100000 in
theorem c_Disk_forgetTouched (l : Launch) (D : va_G) (g : Nat → Nat) (k : Nat → ClassId) (L : Nat) (hL0 : 96 ≤ L) (hL : L ≤ 768) (u : DSt) : MuV l y_Disk_forgetTouched w_Disk_forgetTouched ({ frames := 0, cells := 0, slots := 0, locals := 0 }) [.ref (g 0)] D cl5 (tyC k) (wD g k L u) (wD g k L (fgt L u)) := by
  intro sz
  refine Met.ofW (cc := b_Disk_forgetTouched) (maxL := 2) (ret := none) (by decide) rfl ?_
  intro p e s m args below meth c s₁ B hml hv
  obtain ⟨rfl, hsz, hP, hK, hD0⟩ := hv
  have hx := B.exec
  have hb := B.bytes
  have hr := B.returns
  have hts := atoms_spec (ws := w_Disk_forgetTouched) B.pre
  have hTB : ∀ w ∈ lw_tb, w.before _ s = true := fun w h => hts w (List.mem_cons_of_mem _ h)
  have hown : s.vm.findClass R_Disk = some m.cls := findClass_of_methodNamed B.named
  have hlocks := B.notSynchronized
  subst hsz
  have hD := hD0.self (sz := s.heap.size)
  generalize hAe : va_A (wD g k L u) s.heap.size = A at hD ⊢
  have hA : ∀ q : Nat, s.heap.size ≤ q → A q := fun q h => by rw [← hAe]; exact Or.inr h
  have hS : va_S A s.heap s.heap [] := va_S.rf
  have hl := lv_entry ([.ref (g 0)]) (n := 2) (Nat.le_of_ble_eq_true rfl)
  rw [lg_entry_eq]
  generalize (lg_sl ([.ref (g 0)]) ++ List.replicate (2 - (lg_sl ([.ref (g 0)])).length) Slot.unset).toArray = ls at hl ⊢
  have hl : lv_has ls 2 [(0, .ref (g 0))] := hl
  refine lv_iconst (v := nI 0) hx hb d_Disk_forgetTouched_0 (by decide +kernel) ?_
  refine lv_istore_n (lv' := [(1, .int (nI 0)), (0, .ref (g 0))]) hx hb d_Disk_forgetTouched_1 rfl hl (by decide) rfl (fun ls hl => ?_)
  refine gz_loop 2 (fun (zz : (Nat × DSt)) H locs ls => match zz with | (b, v) => va_P D cl5 (wD g k L v) H ∧ va_D A (wD g k L v) ∧ va_S A s.heap H locs ∧ lv_has ls 2 [(0, .ref (g 0)), (1, .int (nI b))] ∧ (b ≤ L) ∧ (fgG (L - b) b v = fgG L 0 u)) (fun (zz : (Nat × DSt)) => match zz with | (b, v) => L - b) (fun zz H locs ls hI ih2 => ?_) (0, u) ⟨hP, hD, hS, lv_sub hl [1, 0] rfl, (by omega), rfl⟩
  obtain ⟨b, v⟩ := zz
  obtain ⟨hP, hD, hS, hl, hb1, hb2⟩ := hI
  refine lv_iload_n hx hb d_Disk_forgetTouched_2 rfl (lv_at hl 1 rfl) ?_
  refine lv_aload_n hx hb d_Disk_forgetTouched_3 rfl (lv_at hl 0 rfl) ?_
  refine va_get (D := D) (ci := 1) (v := .int (nI L)) (C := R_Disk) (T := T_Disk) (N := 7) hx hb hTB in_Disk hown hK hP 0 rfl rfl 0 (by decide) (hTB _ k_92) (fun _ h9 => h9) rfl d_Disk_forgetTouched_4 ?_
  refine gz_icmp_ge (tgt := 23) hx hb d_Disk_forgetTouched_7 (by decide) (by omega) (by omega) (fun h7 => ?_) (fun h7 => ?_)
  · have hb3 : b = L := by omega
    rw [hb3, Nat.sub_self] at hb2
    have hb2 : v = fgt L u := hb2
    have hP9 : va_P D cl5 (wD g k L (fgt L u)) H := (by rw [← hb2]; exact hP)
    have hD9 : va_D A (wD g k L (fgt L u)) := (by rw [← hb2]; exact hD)
    exact W.vret hx hb hr (fun tt9 ht9 hW9 => ⟨⟨(), rfl, trivial, ⟨by rw [ht9]; exact hP9, hD9⟩⟩, hS.F ht9⟩) hS.2.2 d_Disk_forgetTouched_23
  · refine lv_aload_n hx hb d_Disk_forgetTouched_10 rfl (lv_at hl 0 rfl) ?_
    refine va_get (D := D) (ci := 1) (v := .ref (g 4)) (C := R_Disk) (T := T_Disk) (N := 7) hx hb hTB in_Disk hown hK hP 0 rfl rfl 4 (by decide) (hTB _ k_96) (fun _ h9 => h9) rfl d_Disk_forgetTouched_11 ?_
    refine lv_iload_n hx hb d_Disk_forgetTouched_14 rfl (lv_at hl 1 rfl) ?_
    refine lv_iconst (v := nI 0) hx hb d_Disk_forgetTouched_15 (by decide +kernel) ?_
    refine gz_zast hx hb hK hP hD hS 4 1 rfl rfl (i := b) false rfl (by omega) (by omega) d_Disk_forgetTouched_16 (fun H locs hP hD hS => ?_)
    have hP : va_P D cl5 (wD g k L (sTou v (va_up (dTou v) b false))) H := hP
    have hD : va_D A (wD g k L (sTou v (va_up (dTou v) b false))) := hD
    refine lv_iinc (v := nI (b + 1)) (lv' := [(1, .int (nI (b + 1))), (0, .ref (g 0))]) hx hb d_Disk_forgetTouched_17 hl (k := 1) rfl (nI_add b 1) (by decide) rfl (fun ls hl => ?_)
    refine lv_goto (tgt := 2) hx hb d_Disk_forgetTouched_20 (by decide) ?_
    exact ih2 (b + 1, sTou v (va_up (dTou v) b false)) _ _ _ (by first | omega | (dsimp only; omega)) ⟨hP, hD, hS, lv_sub hl [1, 0] rfl, (by omega), (by rw [← hb2, show L - b = (L - (b + 1)) + 1 by omega]; rfl)⟩
theorem d_Disk_undo_0 : decode b_Disk_undo 0 = .ok (.iconst 0, 1) := by decide +kernel
theorem d_Disk_undo_1 : decode b_Disk_undo 1 = .ok (.istore_n 1, 1) := by decide +kernel
theorem d_Disk_undo_2 : decode b_Disk_undo 2 = .ok (.iload_n 1, 1) := by decide +kernel
theorem d_Disk_undo_3 : decode b_Disk_undo 3 = .ok (.aload_n 0, 1) := by decide +kernel
theorem d_Disk_undo_4 : decode b_Disk_undo 4 = .ok (.getfield 9, 3) := by decide +kernel
theorem d_Disk_undo_7 : decode b_Disk_undo 7 = .ok (.if_icmp .ge 30, 3) := by decide +kernel
theorem d_Disk_undo_10 : decode b_Disk_undo 10 = .ok (.aload_n 0, 1) := by decide +kernel
theorem d_Disk_undo_11 : decode b_Disk_undo 11 = .ok (.getfield 25, 3) := by decide +kernel
theorem d_Disk_undo_14 : decode b_Disk_undo 14 = .ok (.iload_n 1, 1) := by decide +kernel
theorem d_Disk_undo_15 : decode b_Disk_undo 15 = .ok (.baload, 1) := by decide +kernel
theorem d_Disk_undo_16 : decode b_Disk_undo 16 = .ok (.ifCond .eq 15, 3) := by decide +kernel
theorem d_Disk_undo_19 : decode b_Disk_undo 19 = .ok (.aload_n 0, 1) := by decide +kernel
theorem d_Disk_undo_20 : decode b_Disk_undo 20 = .ok (.getfield 22, 3) := by decide +kernel
theorem d_Disk_undo_23 : decode b_Disk_undo 23 = .ok (.aload_n 0, 1) := by decide +kernel
theorem d_Disk_undo_24 : decode b_Disk_undo 24 = .ok (.getfield 15, 3) := by decide +kernel
theorem d_Disk_undo_27 : decode b_Disk_undo 27 = .ok (.iload_n 1, 1) := by decide +kernel
theorem d_Disk_undo_28 : decode b_Disk_undo 28 = .ok (.invokestatic 64, 3) := by decide +kernel
theorem d_Disk_undo_31 : decode b_Disk_undo 31 = .ok (.iinc 1 1, 3) := by decide +kernel
theorem d_Disk_undo_34 : decode b_Disk_undo 34 = .ok (.goto (-32), 3) := by decide +kernel
theorem d_Disk_undo_37 : decode b_Disk_undo 37 = .ok (.aload_n 0, 1) := by decide +kernel
theorem d_Disk_undo_38 : decode b_Disk_undo 38 = .ok (.invokevirtual 78, 3) := by decide +kernel
theorem d_Disk_undo_41 : decode b_Disk_undo 41 = .ok (.return_, 1) := by decide +kernel
set_option maxHeartbeats 4000000 in
set_option maxRecDepth 100000 in
theorem c_Disk_undo (l : Launch) (D : va_G) (g : Nat → Nat) (k : Nat → ClassId) (L : Nat) (hL0 : 96 ≤ L) (hL : L ≤ 768) (u : DSt) : MuV l y_Disk_undo w_Disk_undo ({ frames := 2, cells := 0, slots := 0, locals := 82 }) [.ref (g 0)] D cl5 (tyC k) (wD g k L u) (wD g k L (und L u)) := by
  intro sz
  refine Met.ofW (cc := b_Disk_undo) (maxL := 2) (ret := none) (by decide) rfl ?_
  intro p e s m args below meth c s₁ B hml hv
  obtain ⟨rfl, hsz, hP, hK, hD0⟩ := hv
  have hx := B.exec
  have hb := B.bytes
  have hr := B.returns
  have hts := atoms_spec (ws := w_Disk_undo) B.pre
  have hTB : ∀ w ∈ lw_tb, w.before _ s = true := fun w h => hts w (List.mem_cons_of_mem _ h)
  have hown : s.vm.findClass R_Disk = some m.cls := findClass_of_methodNamed B.named
  have hlocks := B.notSynchronized
  subst hsz
  have hD := hD0.self (sz := s.heap.size)
  generalize hAe : va_A (wD g k L u) s.heap.size = A at hD ⊢
  have hA : ∀ q : Nat, s.heap.size ≤ q → A q := fun q h => by rw [← hAe]; exact Or.inr h
  have hS : va_S A s.heap s.heap [] := va_S.rf
  have hl := lv_entry ([.ref (g 0)]) (n := 2) (Nat.le_of_ble_eq_true rfl)
  rw [lg_entry_eq]
  generalize (lg_sl ([.ref (g 0)]) ++ List.replicate (2 - (lg_sl ([.ref (g 0)])).length) Slot.unset).toArray = ls at hl ⊢
  have hl : lv_has ls 2 [(0, .ref (g 0))] := hl
  refine lv_iconst (v := nI 0) hx hb d_Disk_undo_0 (by decide +kernel) ?_
  refine lv_istore_n (lv' := [(1, .int (nI 0)), (0, .ref (g 0))]) hx hb d_Disk_undo_1 rfl hl (by decide) rfl (fun ls hl => ?_)
  refine gz_loop 2 (fun (zz : (Nat × DSt)) H locs ls => match zz with | (b, v) => va_P D cl5 (wD g k L v) H ∧ va_D A (wD g k L v) ∧ va_S A s.heap H locs ∧ lv_has ls 2 [(0, .ref (g 0)), (1, .int (nI b))] ∧ (b ≤ L) ∧ (unG (L - b) b v = unG L 0 u)) (fun (zz : (Nat × DSt)) => match zz with | (b, v) => L - b) (fun zz H locs ls hI ih2 => ?_) (0, u) ⟨hP, hD, hS, lv_sub hl [1, 0] rfl, (by omega), rfl⟩
  obtain ⟨b, v⟩ := zz
  obtain ⟨hP, hD, hS, hl, hb1, hb2⟩ := hI
  refine lv_iload_n hx hb d_Disk_undo_2 rfl (lv_at hl 1 rfl) ?_
  refine lv_aload_n hx hb d_Disk_undo_3 rfl (lv_at hl 0 rfl) ?_
  refine va_get (D := D) (ci := 1) (v := .int (nI L)) (C := R_Disk) (T := T_Disk) (N := 7) hx hb hTB in_Disk hown hK hP 0 rfl rfl 0 (by decide) (hTB _ k_92) (fun _ h9 => h9) rfl d_Disk_undo_4 ?_
  refine gz_icmp_ge (tgt := 37) hx hb d_Disk_undo_7 (by decide) (by omega) (by omega) (fun h7 => ?_) (fun h7 => ?_)
  · have hb3 : b = L := by omega
    rw [hb3, Nat.sub_self] at hb2
    have hb2 : v = unG L 0 u := hb2
    refine lv_aload_n hx hb d_Disk_undo_37 rfl (lv_at hl 0 rfl) ?_
    refine gz_muV (As := []) (rest := []) (wc := (wD g k L v)) (w1 := (wD g k L (fgt L v))) (wr := ([])) ⟨hx, hb, hml, hown, hTB⟩ (c_Disk_forgetTouched l D g k L hL0 hL v) (cwV 0 hTB (gd_V k_183 k_185 k_5 k_52 k_186) rfl rfl rfl (by decide +kernel) ⟨Nat.le_of_ble_eq_true rfl, Nat.le_of_ble_eq_true rfl⟩) hK hP hD hA [0, 1, 2, 3, 4, 5] [] rfl rfl (by decide) rfl (by decide) (by decide) 0 rfl rfl rfl hl.1 rfl (Nat.le_of_ble_eq_true rfl) d_Disk_undo_38 ⟨Nat.zero_le _, Nat.zero_le _⟩ hS (fun H locs hP hD hS => ?_)
    have hP : va_P D cl5 (wD g k L (fgt L v)) H := hP
    have hD : va_D A (wD g k L (fgt L v)) := hD
    have hP9 : va_P D cl5 (wD g k L (und L u)) H := (by unfold und; rw [← hb2]; exact hP)
    have hD9 : va_D A (wD g k L (und L u)) := (by unfold und; rw [← hb2]; exact hD)
    exact W.vret hx hb hr (fun tt9 ht9 hW9 => ⟨⟨(), rfl, trivial, ⟨by rw [ht9]; exact hP9, hD9⟩⟩, hS.F ht9⟩) hS.2.2 d_Disk_undo_41
  · refine lv_aload_n hx hb d_Disk_undo_10 rfl (lv_at hl 0 rfl) ?_
    refine va_get (D := D) (ci := 1) (v := .ref (g 4)) (C := R_Disk) (T := T_Disk) (N := 7) hx hb hTB in_Disk hown hK hP 0 rfl rfl 4 (by decide) (hTB _ k_96) (fun _ h9 => h9) rfl d_Disk_undo_11 ?_
    refine lv_iload_n hx hb d_Disk_undo_14 rfl (lv_at hl 1 rfl) ?_
    refine gz_zald hx hb hK hP 4 1 rfl rfl (i := b) (by omega) (by omega) d_Disk_undo_15 ?_
    refine gz_ifz_eq (tgt := 31) hx hb d_Disk_undo_16 (by decide) (fun h16 => ?_) (fun h16 => ?_)
    · refine lv_iinc (v := nI (b + 1)) (lv' := [(1, .int (nI (b + 1))), (0, .ref (g 0))]) hx hb d_Disk_undo_31 hl (k := 1) rfl (nI_add b 1) (by decide) rfl (fun ls hl => ?_)
      refine lv_goto (tgt := 2) hx hb d_Disk_undo_34 (by decide) ?_
      exact ih2 (b + 1, v) _ _ _ (by first | omega | (dsimp only; omega)) ⟨hP, hD, hS, lv_sub hl [1, 0] rfl, (by omega), (by rw [← hb2, show L - b = (L - (b + 1)) + 1 by omega]; rw [unG_s]; first | rw [if_pos h16] | rw [if_neg (by rw [h16]; decide)])⟩
    · refine lv_aload_n hx hb d_Disk_undo_19 rfl (lv_at hl 0 rfl) ?_
      refine va_get (D := D) (ci := 1) (v := .ref (g 3)) (C := R_Disk) (T := T_Disk) (N := 7) hx hb hTB in_Disk hown hK hP 0 rfl rfl 3 (by decide) (hTB _ k_95) (fun _ h9 => h9) rfl d_Disk_undo_20 ?_
      refine lv_aload_n hx hb d_Disk_undo_23 rfl (lv_at hl 0 rfl) ?_
      refine va_get (D := D) (ci := 1) (v := .ref (g 1)) (C := R_Disk) (T := T_Disk) (N := 7) hx hb hTB in_Disk hown hK hP 0 rfl rfl 1 (by decide) (hTB _ k_93) (fun _ h9 => h9) rfl d_Disk_undo_24 ?_
      refine lv_iload_n hx hb d_Disk_undo_27 rfl (lv_at hl 1 rfl) ?_
      refine gz_muS (As := [.ref (g 3), .ref (g 1), .int (nI b)]) (rest := []) (wc := (wA (g 3) (g 1) k L (dBef v) (dNow v))) (w1 := (wA (g 3) (g 1) k L (dBef v) (cpB (dBef v) (dNow v) b))) (wr := [(g 0, .inr (1, [.int (nI L), .ref (g 1), .ref (g 2), .ref (g 3), .ref (g 4), .ref (g 5), .int (dEa v)])), (g 2, .inl (k 0, L * 8, .inr (.inl (dCom v)))), (g 4, .inl (k 1, L, .inl (fun j => zI (dTou v j)))), (g 5, .inl (k 1, L, .inl (fun j => zI (dDif v j))))]) ⟨hx, hb, hml, hown, hTB⟩ (c_Disk_copyBlock l D (g 3) (g 1) k L hL0 hL (dBef v) (dNow v) b (by omega)) (cwS 3 hTB (gd_S k_172 k_173 k_52 k_174) rfl rfl rfl (by decide +kernel) ⟨Nat.le_of_ble_eq_true rfl, Nat.le_of_ble_eq_true rfl⟩) hK hP hD hA [3, 1] [0, 2, 4, 5] rfl rfl (by decide) rfl (by decide) (by decide) rfl hl.1 rfl (Nat.le_of_ble_eq_true rfl) d_Disk_undo_28 ⟨Nat.zero_le _, Nat.zero_le _⟩ hS (fun H locs hP hD hS => ?_)
      have hP : va_P D cl5 (wD g k L (sNow v (cpB (dBef v) (dNow v) b))) H := hP.sub [0, 5, 1, 4, 2, 3] rfl
      have hD : va_D A (wD g k L (sNow v (cpB (dBef v) (dNow v) b))) := hD.sub [0, 5, 1, 4, 2, 3] (by decide) rfl
      refine lv_iinc (v := nI (b + 1)) (lv' := [(1, .int (nI (b + 1))), (0, .ref (g 0))]) hx hb d_Disk_undo_31 hl (k := 1) rfl (nI_add b 1) (by decide) rfl (fun ls hl => ?_)
      refine lv_goto (tgt := 2) hx hb d_Disk_undo_34 (by decide) ?_
      exact ih2 (b + 1, sNow v (cpB (dBef v) (dNow v) b)) _ _ _ (by first | omega | (dsimp only; omega)) ⟨hP, hD, hS, lv_sub hl [1, 0] rfl, (by omega), (by rw [← hb2, show L - b = (L - (b + 1)) + 1 by omega]; rw [unG_s]; first | rw [if_pos h16] | rw [if_neg (by rw [h16]; decide)])⟩
theorem d_Disk_makeAlike_0 : decode b_Disk_makeAlike 0 = .ok (.iconst 0, 1) := by decide +kernel
theorem d_Disk_makeAlike_1 : decode b_Disk_makeAlike 1 = .ok (.istore_n 3, 1) := by decide +kernel
theorem d_Disk_makeAlike_2 : decode b_Disk_makeAlike 2 = .ok (.iload_n 3, 1) := by decide +kernel
theorem d_Disk_makeAlike_3 : decode b_Disk_makeAlike 3 = .ok (.aload_n 0, 1) := by decide +kernel
theorem d_Disk_makeAlike_4 : decode b_Disk_makeAlike 4 = .ok (.getfield 9, 3) := by decide +kernel
theorem d_Disk_makeAlike_7 : decode b_Disk_makeAlike 7 = .ok (.if_icmp .ge 31, 3) := by decide +kernel
theorem d_Disk_makeAlike_10 : decode b_Disk_makeAlike 10 = .ok (.aload_n 0, 1) := by decide +kernel
theorem d_Disk_makeAlike_11 : decode b_Disk_makeAlike 11 = .ok (.getfield 29, 3) := by decide +kernel
theorem d_Disk_makeAlike_14 : decode b_Disk_makeAlike 14 = .ok (.iload_n 3, 1) := by decide +kernel
theorem d_Disk_makeAlike_15 : decode b_Disk_makeAlike 15 = .ok (.baload, 1) := by decide +kernel
theorem d_Disk_makeAlike_16 : decode b_Disk_makeAlike 16 = .ok (.ifCond .eq 16, 3) := by decide +kernel
theorem d_Disk_makeAlike_19 : decode b_Disk_makeAlike 19 = .ok (.aload_n 1, 1) := by decide +kernel
theorem d_Disk_makeAlike_20 : decode b_Disk_makeAlike 20 = .ok (.aload_n 2, 1) := by decide +kernel
theorem d_Disk_makeAlike_21 : decode b_Disk_makeAlike 21 = .ok (.iload_n 3, 1) := by decide +kernel
theorem d_Disk_makeAlike_22 : decode b_Disk_makeAlike 22 = .ok (.invokestatic 64, 3) := by decide +kernel
theorem d_Disk_makeAlike_25 : decode b_Disk_makeAlike 25 = .ok (.aload_n 0, 1) := by decide +kernel
theorem d_Disk_makeAlike_26 : decode b_Disk_makeAlike 26 = .ok (.getfield 29, 3) := by decide +kernel
theorem d_Disk_makeAlike_29 : decode b_Disk_makeAlike 29 = .ok (.iload_n 3, 1) := by decide +kernel
theorem d_Disk_makeAlike_30 : decode b_Disk_makeAlike 30 = .ok (.iconst 0, 1) := by decide +kernel
theorem d_Disk_makeAlike_31 : decode b_Disk_makeAlike 31 = .ok (.bastore, 1) := by decide +kernel
theorem d_Disk_makeAlike_32 : decode b_Disk_makeAlike 32 = .ok (.iinc 3 1, 3) := by decide +kernel
theorem d_Disk_makeAlike_35 : decode b_Disk_makeAlike 35 = .ok (.goto (-33), 3) := by decide +kernel
theorem d_Disk_makeAlike_38 : decode b_Disk_makeAlike 38 = .ok (.return_, 1) := by decide +kernel
set_option maxHeartbeats 4000000 in
set_option maxRecDepth 100000 in
theorem c_Disk_makeAlike_c (l : Launch) (D : va_G) (g : Nat → Nat) (k : Nat → ClassId) (L : Nat) (hL0 : 96 ≤ L) (hL : L ≤ 768) (u : DSt) : MuV l y_Disk_makeAlike w_Disk_makeAlike ({ frames := 2, cells := 0, slots := 0, locals := 82 }) [.ref (g 0), .ref (g 1), .ref (g 2)] D cl5 (tyC k) (wD g k L u) (wD g k L (mcG L 0 u)) := by
  intro sz
  refine Met.ofW (cc := b_Disk_makeAlike) (maxL := 4) (ret := none) (by decide) rfl ?_
  intro p e s m args below meth c s₁ B hml hv
  obtain ⟨rfl, hsz, hP, hK, hD0⟩ := hv
  have hx := B.exec
  have hb := B.bytes
  have hr := B.returns
  have hts := atoms_spec (ws := w_Disk_makeAlike) B.pre
  have hTB : ∀ w ∈ lw_tb, w.before _ s = true := fun w h => hts w (List.mem_cons_of_mem _ h)
  have hown : s.vm.findClass R_Disk = some m.cls := findClass_of_methodNamed B.named
  have hlocks := B.notSynchronized
  subst hsz
  have hD := hD0.self (sz := s.heap.size)
  generalize hAe : va_A (wD g k L u) s.heap.size = A at hD ⊢
  have hA : ∀ q : Nat, s.heap.size ≤ q → A q := fun q h => by rw [← hAe]; exact Or.inr h
  have hS : va_S A s.heap s.heap [] := va_S.rf
  have hl := lv_entry ([.ref (g 0), .ref (g 1), .ref (g 2)]) (n := 4) (Nat.le_of_ble_eq_true rfl)
  rw [lg_entry_eq]
  generalize (lg_sl ([.ref (g 0), .ref (g 1), .ref (g 2)]) ++ List.replicate (4 - (lg_sl ([.ref (g 0), .ref (g 1), .ref (g 2)])).length) Slot.unset).toArray = ls at hl ⊢
  have hl : lv_has ls 4 [(0, .ref (g 0)), (1, .ref (g 1)), (2, .ref (g 2))] := hl
  refine lv_iconst (v := nI 0) hx hb d_Disk_makeAlike_0 (by decide +kernel) ?_
  refine lv_istore_n (lv' := [(3, .int (nI 0)), (0, .ref (g 0)), (1, .ref (g 1)), (2, .ref (g 2))]) hx hb d_Disk_makeAlike_1 rfl hl (by decide) rfl (fun ls hl => ?_)
  refine gz_loop 2 (fun (zz : (Nat × DSt)) H locs ls => match zz with | (b, v) => va_P D cl5 (wD g k L v) H ∧ va_D A (wD g k L v) ∧ va_S A s.heap H locs ∧ lv_has ls 4 [(0, .ref (g 0)), (1, .ref (g 1)), (2, .ref (g 2)), (3, .int (nI b))] ∧ (b ≤ L) ∧ (mcG (L - b) b v = mcG L 0 u)) (fun (zz : (Nat × DSt)) => match zz with | (b, v) => L - b) (fun zz H locs ls hI ih2 => ?_) (0, u) ⟨hP, hD, hS, lv_sub hl [1, 2, 3, 0] rfl, (by omega), rfl⟩
  obtain ⟨b, v⟩ := zz
  obtain ⟨hP, hD, hS, hl, hb1, hb2⟩ := hI
  refine lv_iload_n hx hb d_Disk_makeAlike_2 rfl (lv_at hl 3 rfl) ?_
  refine lv_aload_n hx hb d_Disk_makeAlike_3 rfl (lv_at hl 0 rfl) ?_
  refine va_get (D := D) (ci := 1) (v := .int (nI L)) (C := R_Disk) (T := T_Disk) (N := 7) hx hb hTB in_Disk hown hK hP 0 rfl rfl 0 (by decide) (hTB _ k_92) (fun _ h9 => h9) rfl d_Disk_makeAlike_4 ?_
  refine gz_icmp_ge (tgt := 38) hx hb d_Disk_makeAlike_7 (by decide) (by omega) (by omega) (fun h7 => ?_) (fun h7 => ?_)
  · have hb3 : b = L := by omega
    rw [hb3, Nat.sub_self] at hb2
    have hb2 : v = mcG L 0 u := hb2
    have hP9 : va_P D cl5 (wD g k L (mcG L 0 u)) H := (by rw [← hb2]; exact hP)
    have hD9 : va_D A (wD g k L (mcG L 0 u)) := (by rw [← hb2]; exact hD)
    exact W.vret hx hb hr (fun tt9 ht9 hW9 => ⟨⟨(), rfl, trivial, ⟨by rw [ht9]; exact hP9, hD9⟩⟩, hS.F ht9⟩) hS.2.2 d_Disk_makeAlike_38
  · refine lv_aload_n hx hb d_Disk_makeAlike_10 rfl (lv_at hl 0 rfl) ?_
    refine va_get (D := D) (ci := 1) (v := .ref (g 5)) (C := R_Disk) (T := T_Disk) (N := 7) hx hb hTB in_Disk hown hK hP 0 rfl rfl 5 (by decide) (hTB _ k_97) (fun _ h9 => h9) rfl d_Disk_makeAlike_11 ?_
    refine lv_iload_n hx hb d_Disk_makeAlike_14 rfl (lv_at hl 3 rfl) ?_
    refine gz_zald hx hb hK hP 5 1 rfl rfl (i := b) (by omega) (by omega) d_Disk_makeAlike_15 ?_
    refine gz_ifz_eq (tgt := 32) hx hb d_Disk_makeAlike_16 (by decide) (fun h16 => ?_) (fun h16 => ?_)
    · refine lv_iinc (v := nI (b + 1)) (lv' := [(3, .int (nI (b + 1))), (0, .ref (g 0)), (1, .ref (g 1)), (2, .ref (g 2))]) hx hb d_Disk_makeAlike_32 hl (k := 3) rfl (nI_add b 1) (by decide) rfl (fun ls hl => ?_)
      refine lv_goto (tgt := 2) hx hb d_Disk_makeAlike_35 (by decide) ?_
      exact ih2 (b + 1, v) _ _ _ (by first | omega | (dsimp only; omega)) ⟨hP, hD, hS, lv_sub hl [1, 2, 3, 0] rfl, (by omega), (by rw [← hb2, show L - b = (L - (b + 1)) + 1 by omega]; rw [mcG_s]; first | rw [if_pos h16] | rw [if_neg (by rw [h16]; decide)])⟩
    · refine lv_aload_n hx hb d_Disk_makeAlike_19 rfl (lv_at hl 1 rfl) ?_
      refine lv_aload_n hx hb d_Disk_makeAlike_20 rfl (lv_at hl 2 rfl) ?_
      refine lv_iload_n hx hb d_Disk_makeAlike_21 rfl (lv_at hl 3 rfl) ?_
      refine gz_muS (As := [.ref (g 1), .ref (g 2), .int (nI b)]) (rest := []) (wc := (wA (g 1) (g 2) k L (dNow v) (dCom v))) (w1 := (wA (g 1) (g 2) k L (dNow v) (cpB (dNow v) (dCom v) b))) (wr := [(g 0, .inr (1, [.int (nI L), .ref (g 1), .ref (g 2), .ref (g 3), .ref (g 4), .ref (g 5), .int (dEa v)])), (g 3, .inl (k 0, L * 8, .inr (.inl (dBef v)))), (g 4, .inl (k 1, L, .inl (fun j => zI (dTou v j)))), (g 5, .inl (k 1, L, .inl (fun j => zI (dDif v j))))]) ⟨hx, hb, hml, hown, hTB⟩ (c_Disk_copyBlock l D (g 1) (g 2) k L hL0 hL (dNow v) (dCom v) b (by omega)) (cwS 3 hTB (gd_S k_172 k_173 k_52 k_174) rfl rfl rfl (by decide +kernel) ⟨Nat.le_of_ble_eq_true rfl, Nat.le_of_ble_eq_true rfl⟩) hK hP hD hA [1, 2] [0, 3, 4, 5] rfl rfl (by decide) rfl (by decide) (by decide) rfl hl.1 rfl (Nat.le_of_ble_eq_true rfl) d_Disk_makeAlike_22 ⟨Nat.zero_le _, Nat.zero_le _⟩ hS (fun H locs hP hD hS => ?_)
      have hP : va_P D cl5 (wD g k L (sCom v (cpB (dNow v) (dCom v) b))) H := hP.sub [0, 4, 5, 1, 2, 3] rfl
      have hD : va_D A (wD g k L (sCom v (cpB (dNow v) (dCom v) b))) := hD.sub [0, 4, 5, 1, 2, 3] (by decide) rfl
      refine lv_aload_n hx hb d_Disk_makeAlike_25 rfl (lv_at hl 0 rfl) ?_
      refine va_get (D := D) (ci := 1) (v := .ref (g 5)) (C := R_Disk) (T := T_Disk) (N := 7) hx hb hTB in_Disk hown hK hP 0 rfl rfl 5 (by decide) (hTB _ k_97) (fun _ h9 => h9) rfl d_Disk_makeAlike_26 ?_
      refine lv_iload_n hx hb d_Disk_makeAlike_29 rfl (lv_at hl 3 rfl) ?_
      refine lv_iconst (v := nI 0) hx hb d_Disk_makeAlike_30 (by decide +kernel) ?_
      refine gz_zast hx hb hK hP hD hS 5 1 rfl rfl (i := b) false rfl (by omega) (by omega) d_Disk_makeAlike_31 (fun H locs hP hD hS => ?_)
      have hP : va_P D cl5 (wD g k L (sDif (sCom v (cpB (dNow v) (dCom v) b)) (va_up (dDif (sCom v (cpB (dNow v) (dCom v) b))) b false))) H := hP
      have hD : va_D A (wD g k L (sDif (sCom v (cpB (dNow v) (dCom v) b)) (va_up (dDif (sCom v (cpB (dNow v) (dCom v) b))) b false))) := hD
      refine lv_iinc (v := nI (b + 1)) (lv' := [(3, .int (nI (b + 1))), (0, .ref (g 0)), (1, .ref (g 1)), (2, .ref (g 2))]) hx hb d_Disk_makeAlike_32 hl (k := 3) rfl (nI_add b 1) (by decide) rfl (fun ls hl => ?_)
      refine lv_goto (tgt := 2) hx hb d_Disk_makeAlike_35 (by decide) ?_
      exact ih2 (b + 1, sDif (sCom v (cpB (dNow v) (dCom v) b)) (va_up (dDif (sCom v (cpB (dNow v) (dCom v) b))) b false)) _ _ _ (by first | omega | (dsimp only; omega)) ⟨hP, hD, hS, lv_sub hl [1, 2, 3, 0] rfl, (by omega), (by rw [← hb2, show L - b = (L - (b + 1)) + 1 by omega]; rw [mcG_s]; first | rw [if_pos h16] | rw [if_neg (by rw [h16]; decide)])⟩
set_option maxHeartbeats 4000000 in
set_option maxRecDepth 100000 in
theorem c_Disk_makeAlike_d (l : Launch) (D : va_G) (g : Nat → Nat) (k : Nat → ClassId) (L : Nat) (hL0 : 96 ≤ L) (hL : L ≤ 768) (u : DSt) : MuV l y_Disk_makeAlike w_Disk_makeAlike ({ frames := 2, cells := 0, slots := 0, locals := 82 }) [.ref (g 0), .ref (g 2), .ref (g 1)] D cl5 (tyC k) (wD g k L u) (wD g k L (mdG L 0 u)) := by
  intro sz
  refine Met.ofW (cc := b_Disk_makeAlike) (maxL := 4) (ret := none) (by decide) rfl ?_
  intro p e s m args below meth c s₁ B hml hv
  obtain ⟨rfl, hsz, hP, hK, hD0⟩ := hv
  have hx := B.exec
  have hb := B.bytes
  have hr := B.returns
  have hts := atoms_spec (ws := w_Disk_makeAlike) B.pre
  have hTB : ∀ w ∈ lw_tb, w.before _ s = true := fun w h => hts w (List.mem_cons_of_mem _ h)
  have hown : s.vm.findClass R_Disk = some m.cls := findClass_of_methodNamed B.named
  have hlocks := B.notSynchronized
  subst hsz
  have hD := hD0.self (sz := s.heap.size)
  generalize hAe : va_A (wD g k L u) s.heap.size = A at hD ⊢
  have hA : ∀ q : Nat, s.heap.size ≤ q → A q := fun q h => by rw [← hAe]; exact Or.inr h
  have hS : va_S A s.heap s.heap [] := va_S.rf
  have hl := lv_entry ([.ref (g 0), .ref (g 2), .ref (g 1)]) (n := 4) (Nat.le_of_ble_eq_true rfl)
  rw [lg_entry_eq]
  generalize (lg_sl ([.ref (g 0), .ref (g 2), .ref (g 1)]) ++ List.replicate (4 - (lg_sl ([.ref (g 0), .ref (g 2), .ref (g 1)])).length) Slot.unset).toArray = ls at hl ⊢
  have hl : lv_has ls 4 [(0, .ref (g 0)), (1, .ref (g 2)), (2, .ref (g 1))] := hl
  refine lv_iconst (v := nI 0) hx hb d_Disk_makeAlike_0 (by decide +kernel) ?_
  refine lv_istore_n (lv' := [(3, .int (nI 0)), (0, .ref (g 0)), (1, .ref (g 2)), (2, .ref (g 1))]) hx hb d_Disk_makeAlike_1 rfl hl (by decide) rfl (fun ls hl => ?_)
  refine gz_loop 2 (fun (zz : (Nat × DSt)) H locs ls => match zz with | (b, v) => va_P D cl5 (wD g k L v) H ∧ va_D A (wD g k L v) ∧ va_S A s.heap H locs ∧ lv_has ls 4 [(0, .ref (g 0)), (1, .ref (g 2)), (2, .ref (g 1)), (3, .int (nI b))] ∧ (b ≤ L) ∧ (mdG (L - b) b v = mdG L 0 u)) (fun (zz : (Nat × DSt)) => match zz with | (b, v) => L - b) (fun zz H locs ls hI ih2 => ?_) (0, u) ⟨hP, hD, hS, lv_sub hl [1, 2, 3, 0] rfl, (by omega), rfl⟩
  obtain ⟨b, v⟩ := zz
  obtain ⟨hP, hD, hS, hl, hb1, hb2⟩ := hI
  refine lv_iload_n hx hb d_Disk_makeAlike_2 rfl (lv_at hl 3 rfl) ?_
  refine lv_aload_n hx hb d_Disk_makeAlike_3 rfl (lv_at hl 0 rfl) ?_
  refine va_get (D := D) (ci := 1) (v := .int (nI L)) (C := R_Disk) (T := T_Disk) (N := 7) hx hb hTB in_Disk hown hK hP 0 rfl rfl 0 (by decide) (hTB _ k_92) (fun _ h9 => h9) rfl d_Disk_makeAlike_4 ?_
  refine gz_icmp_ge (tgt := 38) hx hb d_Disk_makeAlike_7 (by decide) (by omega) (by omega) (fun h7 => ?_) (fun h7 => ?_)
  · have hb3 : b = L := by omega
    rw [hb3, Nat.sub_self] at hb2
    have hb2 : v = mdG L 0 u := hb2
    have hP9 : va_P D cl5 (wD g k L (mdG L 0 u)) H := (by rw [← hb2]; exact hP)
    have hD9 : va_D A (wD g k L (mdG L 0 u)) := (by rw [← hb2]; exact hD)
    exact W.vret hx hb hr (fun tt9 ht9 hW9 => ⟨⟨(), rfl, trivial, ⟨by rw [ht9]; exact hP9, hD9⟩⟩, hS.F ht9⟩) hS.2.2 d_Disk_makeAlike_38
  · refine lv_aload_n hx hb d_Disk_makeAlike_10 rfl (lv_at hl 0 rfl) ?_
    refine va_get (D := D) (ci := 1) (v := .ref (g 5)) (C := R_Disk) (T := T_Disk) (N := 7) hx hb hTB in_Disk hown hK hP 0 rfl rfl 5 (by decide) (hTB _ k_97) (fun _ h9 => h9) rfl d_Disk_makeAlike_11 ?_
    refine lv_iload_n hx hb d_Disk_makeAlike_14 rfl (lv_at hl 3 rfl) ?_
    refine gz_zald hx hb hK hP 5 1 rfl rfl (i := b) (by omega) (by omega) d_Disk_makeAlike_15 ?_
    refine gz_ifz_eq (tgt := 32) hx hb d_Disk_makeAlike_16 (by decide) (fun h16 => ?_) (fun h16 => ?_)
    · refine lv_iinc (v := nI (b + 1)) (lv' := [(3, .int (nI (b + 1))), (0, .ref (g 0)), (1, .ref (g 2)), (2, .ref (g 1))]) hx hb d_Disk_makeAlike_32 hl (k := 3) rfl (nI_add b 1) (by decide) rfl (fun ls hl => ?_)
      refine lv_goto (tgt := 2) hx hb d_Disk_makeAlike_35 (by decide) ?_
      exact ih2 (b + 1, v) _ _ _ (by first | omega | (dsimp only; omega)) ⟨hP, hD, hS, lv_sub hl [1, 2, 3, 0] rfl, (by omega), (by rw [← hb2, show L - b = (L - (b + 1)) + 1 by omega]; rw [mdG_s]; first | rw [if_pos h16] | rw [if_neg (by rw [h16]; decide)])⟩
    · refine lv_aload_n hx hb d_Disk_makeAlike_19 rfl (lv_at hl 1 rfl) ?_
      refine lv_aload_n hx hb d_Disk_makeAlike_20 rfl (lv_at hl 2 rfl) ?_
      refine lv_iload_n hx hb d_Disk_makeAlike_21 rfl (lv_at hl 3 rfl) ?_
      refine gz_muS (As := [.ref (g 2), .ref (g 1), .int (nI b)]) (rest := []) (wc := (wA (g 2) (g 1) k L (dCom v) (dNow v))) (w1 := (wA (g 2) (g 1) k L (dCom v) (cpB (dCom v) (dNow v) b))) (wr := [(g 0, .inr (1, [.int (nI L), .ref (g 1), .ref (g 2), .ref (g 3), .ref (g 4), .ref (g 5), .int (dEa v)])), (g 3, .inl (k 0, L * 8, .inr (.inl (dBef v)))), (g 4, .inl (k 1, L, .inl (fun j => zI (dTou v j)))), (g 5, .inl (k 1, L, .inl (fun j => zI (dDif v j))))]) ⟨hx, hb, hml, hown, hTB⟩ (c_Disk_copyBlock l D (g 2) (g 1) k L hL0 hL (dCom v) (dNow v) b (by omega)) (cwS 3 hTB (gd_S k_172 k_173 k_52 k_174) rfl rfl rfl (by decide +kernel) ⟨Nat.le_of_ble_eq_true rfl, Nat.le_of_ble_eq_true rfl⟩) hK hP hD hA [2, 1] [0, 3, 4, 5] rfl rfl (by decide) rfl (by decide) (by decide) rfl hl.1 rfl (Nat.le_of_ble_eq_true rfl) d_Disk_makeAlike_22 ⟨Nat.zero_le _, Nat.zero_le _⟩ hS (fun H locs hP hD hS => ?_)
      have hP : va_P D cl5 (wD g k L (sNow v (cpB (dCom v) (dNow v) b))) H := hP.sub [0, 5, 4, 1, 2, 3] rfl
      have hD : va_D A (wD g k L (sNow v (cpB (dCom v) (dNow v) b))) := hD.sub [0, 5, 4, 1, 2, 3] (by decide) rfl
      refine lv_aload_n hx hb d_Disk_makeAlike_25 rfl (lv_at hl 0 rfl) ?_
      refine va_get (D := D) (ci := 1) (v := .ref (g 5)) (C := R_Disk) (T := T_Disk) (N := 7) hx hb hTB in_Disk hown hK hP 0 rfl rfl 5 (by decide) (hTB _ k_97) (fun _ h9 => h9) rfl d_Disk_makeAlike_26 ?_
      refine lv_iload_n hx hb d_Disk_makeAlike_29 rfl (lv_at hl 3 rfl) ?_
      refine lv_iconst (v := nI 0) hx hb d_Disk_makeAlike_30 (by decide +kernel) ?_
      refine gz_zast hx hb hK hP hD hS 5 1 rfl rfl (i := b) false rfl (by omega) (by omega) d_Disk_makeAlike_31 (fun H locs hP hD hS => ?_)
      have hP : va_P D cl5 (wD g k L (sDif (sNow v (cpB (dCom v) (dNow v) b)) (va_up (dDif (sNow v (cpB (dCom v) (dNow v) b))) b false))) H := hP
      have hD : va_D A (wD g k L (sDif (sNow v (cpB (dCom v) (dNow v) b)) (va_up (dDif (sNow v (cpB (dCom v) (dNow v) b))) b false))) := hD
      refine lv_iinc (v := nI (b + 1)) (lv' := [(3, .int (nI (b + 1))), (0, .ref (g 0)), (1, .ref (g 2)), (2, .ref (g 1))]) hx hb d_Disk_makeAlike_32 hl (k := 3) rfl (nI_add b 1) (by decide) rfl (fun ls hl => ?_)
      refine lv_goto (tgt := 2) hx hb d_Disk_makeAlike_35 (by decide) ?_
      exact ih2 (b + 1, sDif (sNow v (cpB (dCom v) (dNow v) b)) (va_up (dDif (sNow v (cpB (dCom v) (dNow v) b))) b false)) _ _ _ (by first | omega | (dsimp only; omega)) ⟨hP, hD, hS, lv_sub hl [1, 2, 3, 0] rfl, (by omega), (by rw [← hb2, show L - b = (L - (b + 1)) + 1 by omega]; rw [mdG_s]; first | rw [if_pos h16] | rw [if_neg (by rw [h16]; decide)])⟩
theorem d_Disk_commitAll_0 : decode b_Disk_commitAll 0 = .ok (.aload_n 0, 1) := by decide +kernel
theorem d_Disk_commitAll_1 : decode b_Disk_commitAll 1 = .ok (.aload_n 0, 1) := by decide +kernel
theorem d_Disk_commitAll_2 : decode b_Disk_commitAll 2 = .ok (.getfield 15, 3) := by decide +kernel
theorem d_Disk_commitAll_5 : decode b_Disk_commitAll 5 = .ok (.aload_n 0, 1) := by decide +kernel
theorem d_Disk_commitAll_6 : decode b_Disk_commitAll 6 = .ok (.getfield 19, 3) := by decide +kernel
theorem d_Disk_commitAll_9 : decode b_Disk_commitAll 9 = .ok (.invokevirtual 81, 3) := by decide +kernel
theorem d_Disk_commitAll_12 : decode b_Disk_commitAll 12 = .ok (.return_, 1) := by decide +kernel
set_option maxHeartbeats 4000000 in
set_option maxRecDepth 100000 in
theorem c_Disk_commitAll (l : Launch) (D : va_G) (g : Nat → Nat) (k : Nat → ClassId) (L : Nat) (hL0 : 96 ≤ L) (hL : L ≤ 768) (u : DSt) : MuV l y_Disk_commitAll w_Disk_commitAll ({ frames := 3, cells := 0, slots := 0, locals := 105 }) [.ref (g 0)] D cl5 (tyC k) (wD g k L u) (wD g k L (cmA L u)) := by
  intro sz
  refine Met.ofW (cc := b_Disk_commitAll) (maxL := 1) (ret := none) (by decide) rfl ?_
  intro p e s m args below meth c s₁ B hml hv
  obtain ⟨rfl, hsz, hP, hK, hD0⟩ := hv
  have hx := B.exec
  have hb := B.bytes
  have hr := B.returns
  have hts := atoms_spec (ws := w_Disk_commitAll) B.pre
  have hTB : ∀ w ∈ lw_tb, w.before _ s = true := fun w h => hts w (List.mem_cons_of_mem _ h)
  have hown : s.vm.findClass R_Disk = some m.cls := findClass_of_methodNamed B.named
  have hlocks := B.notSynchronized
  subst hsz
  have hD := hD0.self (sz := s.heap.size)
  generalize hAe : va_A (wD g k L u) s.heap.size = A at hD ⊢
  have hA : ∀ q : Nat, s.heap.size ≤ q → A q := fun q h => by rw [← hAe]; exact Or.inr h
  have hS : va_S A s.heap s.heap [] := va_S.rf
  have hl := lv_entry ([.ref (g 0)]) (n := 1) (Nat.le_of_ble_eq_true rfl)
  rw [lg_entry_eq]
  generalize (lg_sl ([.ref (g 0)]) ++ List.replicate (1 - (lg_sl ([.ref (g 0)])).length) Slot.unset).toArray = ls at hl ⊢
  have hl : lv_has ls 1 [(0, .ref (g 0))] := hl
  refine lv_aload_n hx hb d_Disk_commitAll_0 rfl (lv_at hl 0 rfl) ?_
  refine lv_aload_n hx hb d_Disk_commitAll_1 rfl (lv_at hl 0 rfl) ?_
  refine va_get (D := D) (ci := 1) (v := .ref (g 1)) (C := R_Disk) (T := T_Disk) (N := 7) hx hb hTB in_Disk hown hK hP 0 rfl rfl 1 (by decide) (hTB _ k_93) (fun _ h9 => h9) rfl d_Disk_commitAll_2 ?_
  refine lv_aload_n hx hb d_Disk_commitAll_5 rfl (lv_at hl 0 rfl) ?_
  refine va_get (D := D) (ci := 1) (v := .ref (g 2)) (C := R_Disk) (T := T_Disk) (N := 7) hx hb hTB in_Disk hown hK hP 0 rfl rfl 2 (by decide) (hTB _ k_94) (fun _ h9 => h9) rfl d_Disk_commitAll_6 ?_
  refine gz_muV (As := [.ref (g 1), .ref (g 2)]) (rest := []) (wc := (wD g k L u)) (w1 := (wD g k L (mcG L 0 u))) (wr := ([])) ⟨hx, hb, hml, hown, hTB⟩ (c_Disk_makeAlike_c l D g k L hL0 hL u) (cwV 2 hTB (gd_V k_191 k_193 k_6 k_52 k_194) rfl rfl rfl (by decide +kernel) ⟨Nat.le_of_ble_eq_true rfl, Nat.le_of_ble_eq_true rfl⟩) hK hP hD hA [0, 1, 2, 3, 4, 5] [] rfl rfl (by decide) rfl (by decide) (by decide) 0 rfl rfl rfl hl.1 rfl (Nat.le_of_ble_eq_true rfl) d_Disk_commitAll_9 ⟨Nat.zero_le _, Nat.zero_le _⟩ hS (fun H locs hP hD hS => ?_)
  have hP : va_P D cl5 (wD g k L (mcG L 0 u)) H := hP
  have hD : va_D A (wD g k L (mcG L 0 u)) := hD
  have hP9 : va_P D cl5 (wD g k L (cmA L u)) H := hP
  have hD9 : va_D A (wD g k L (cmA L u)) := hD
  exact W.vret hx hb hr (fun tt9 ht9 hW9 => ⟨⟨(), rfl, trivial, ⟨by rw [ht9]; exact hP9, hD9⟩⟩, hS.F ht9⟩) hS.2.2 d_Disk_commitAll_12
theorem d_Disk_dropAll_0 : decode b_Disk_dropAll 0 = .ok (.aload_n 0, 1) := by decide +kernel
theorem d_Disk_dropAll_1 : decode b_Disk_dropAll 1 = .ok (.aload_n 0, 1) := by decide +kernel
theorem d_Disk_dropAll_2 : decode b_Disk_dropAll 2 = .ok (.getfield 19, 3) := by decide +kernel
theorem d_Disk_dropAll_5 : decode b_Disk_dropAll 5 = .ok (.aload_n 0, 1) := by decide +kernel
theorem d_Disk_dropAll_6 : decode b_Disk_dropAll 6 = .ok (.getfield 15, 3) := by decide +kernel
theorem d_Disk_dropAll_9 : decode b_Disk_dropAll 9 = .ok (.invokevirtual 81, 3) := by decide +kernel
theorem d_Disk_dropAll_12 : decode b_Disk_dropAll 12 = .ok (.return_, 1) := by decide +kernel
set_option maxHeartbeats 4000000 in
set_option maxRecDepth 100000 in
theorem c_Disk_dropAll (l : Launch) (D : va_G) (g : Nat → Nat) (k : Nat → ClassId) (L : Nat) (hL0 : 96 ≤ L) (hL : L ≤ 768) (u : DSt) : MuV l y_Disk_dropAll w_Disk_dropAll ({ frames := 3, cells := 0, slots := 0, locals := 105 }) [.ref (g 0)] D cl5 (tyC k) (wD g k L u) (wD g k L (drA L u)) := by
  intro sz
  refine Met.ofW (cc := b_Disk_dropAll) (maxL := 1) (ret := none) (by decide) rfl ?_
  intro p e s m args below meth c s₁ B hml hv
  obtain ⟨rfl, hsz, hP, hK, hD0⟩ := hv
  have hx := B.exec
  have hb := B.bytes
  have hr := B.returns
  have hts := atoms_spec (ws := w_Disk_dropAll) B.pre
  have hTB : ∀ w ∈ lw_tb, w.before _ s = true := fun w h => hts w (List.mem_cons_of_mem _ h)
  have hown : s.vm.findClass R_Disk = some m.cls := findClass_of_methodNamed B.named
  have hlocks := B.notSynchronized
  subst hsz
  have hD := hD0.self (sz := s.heap.size)
  generalize hAe : va_A (wD g k L u) s.heap.size = A at hD ⊢
  have hA : ∀ q : Nat, s.heap.size ≤ q → A q := fun q h => by rw [← hAe]; exact Or.inr h
  have hS : va_S A s.heap s.heap [] := va_S.rf
  have hl := lv_entry ([.ref (g 0)]) (n := 1) (Nat.le_of_ble_eq_true rfl)
  rw [lg_entry_eq]
  generalize (lg_sl ([.ref (g 0)]) ++ List.replicate (1 - (lg_sl ([.ref (g 0)])).length) Slot.unset).toArray = ls at hl ⊢
  have hl : lv_has ls 1 [(0, .ref (g 0))] := hl
  refine lv_aload_n hx hb d_Disk_dropAll_0 rfl (lv_at hl 0 rfl) ?_
  refine lv_aload_n hx hb d_Disk_dropAll_1 rfl (lv_at hl 0 rfl) ?_
  refine va_get (D := D) (ci := 1) (v := .ref (g 2)) (C := R_Disk) (T := T_Disk) (N := 7) hx hb hTB in_Disk hown hK hP 0 rfl rfl 2 (by decide) (hTB _ k_94) (fun _ h9 => h9) rfl d_Disk_dropAll_2 ?_
  refine lv_aload_n hx hb d_Disk_dropAll_5 rfl (lv_at hl 0 rfl) ?_
  refine va_get (D := D) (ci := 1) (v := .ref (g 1)) (C := R_Disk) (T := T_Disk) (N := 7) hx hb hTB in_Disk hown hK hP 0 rfl rfl 1 (by decide) (hTB _ k_93) (fun _ h9 => h9) rfl d_Disk_dropAll_6 ?_
  refine gz_muV (As := [.ref (g 2), .ref (g 1)]) (rest := []) (wc := (wD g k L u)) (w1 := (wD g k L (mdG L 0 u))) (wr := ([])) ⟨hx, hb, hml, hown, hTB⟩ (c_Disk_makeAlike_d l D g k L hL0 hL u) (cwV 2 hTB (gd_V k_191 k_193 k_6 k_52 k_194) rfl rfl rfl (by decide +kernel) ⟨Nat.le_of_ble_eq_true rfl, Nat.le_of_ble_eq_true rfl⟩) hK hP hD hA [0, 1, 2, 3, 4, 5] [] rfl rfl (by decide) rfl (by decide) (by decide) 0 rfl rfl rfl hl.1 rfl (Nat.le_of_ble_eq_true rfl) d_Disk_dropAll_9 ⟨Nat.zero_le _, Nat.zero_le _⟩ hS (fun H locs hP hD hS => ?_)
  have hP : va_P D cl5 (wD g k L (mdG L 0 u)) H := hP
  have hD : va_D A (wD g k L (mdG L 0 u)) := hD
  have hP9 : va_P D cl5 (wD g k L (drA L u)) H := hP
  have hD9 : va_D A (wD g k L (drA L u)) := hD
  exact W.vret hx hb hr (fun tt9 ht9 hW9 => ⟨⟨(), rfl, trivial, ⟨by rw [ht9]; exact hP9, hD9⟩⟩, hS.F ht9⟩) hS.2.2 d_Disk_dropAll_12
theorem d_Disk_commitWhatWasBefore_0 : decode b_Disk_commitWhatWasBefore 0 = .ok (.iconst 0, 1) := by decide +kernel
theorem d_Disk_commitWhatWasBefore_1 : decode b_Disk_commitWhatWasBefore 1 = .ok (.istore_n 1, 1) := by decide +kernel
theorem d_Disk_commitWhatWasBefore_2 : decode b_Disk_commitWhatWasBefore 2 = .ok (.iload_n 1, 1) := by decide +kernel
theorem d_Disk_commitWhatWasBefore_3 : decode b_Disk_commitWhatWasBefore 3 = .ok (.aload_n 0, 1) := by decide +kernel
theorem d_Disk_commitWhatWasBefore_4 : decode b_Disk_commitWhatWasBefore 4 = .ok (.getfield 9, 3) := by decide +kernel
theorem d_Disk_commitWhatWasBefore_7 : decode b_Disk_commitWhatWasBefore 7 = .ok (.if_icmp .ge 62, 3) := by decide +kernel
theorem d_Disk_commitWhatWasBefore_10 : decode b_Disk_commitWhatWasBefore 10 = .ok (.aload_n 0, 1) := by decide +kernel
theorem d_Disk_commitWhatWasBefore_11 : decode b_Disk_commitWhatWasBefore 11 = .ok (.getfield 25, 3) := by decide +kernel
theorem d_Disk_commitWhatWasBefore_14 : decode b_Disk_commitWhatWasBefore 14 = .ok (.iload_n 1, 1) := by decide +kernel
theorem d_Disk_commitWhatWasBefore_15 : decode b_Disk_commitWhatWasBefore 15 = .ok (.baload, 1) := by decide +kernel
theorem d_Disk_commitWhatWasBefore_16 : decode b_Disk_commitWhatWasBefore 16 = .ok (.ifCond .eq 10, 3) := by decide +kernel
theorem d_Disk_commitWhatWasBefore_19 : decode b_Disk_commitWhatWasBefore 19 = .ok (.aload_n 0, 1) := by decide +kernel
theorem d_Disk_commitWhatWasBefore_20 : decode b_Disk_commitWhatWasBefore 20 = .ok (.getfield 22, 3) := by decide +kernel
theorem d_Disk_commitWhatWasBefore_23 : decode b_Disk_commitWhatWasBefore 23 = .ok (.goto 7, 3) := by decide +kernel
theorem d_Disk_commitWhatWasBefore_26 : decode b_Disk_commitWhatWasBefore 26 = .ok (.aload_n 0, 1) := by decide +kernel
theorem d_Disk_commitWhatWasBefore_27 : decode b_Disk_commitWhatWasBefore 27 = .ok (.getfield 15, 3) := by decide +kernel
theorem d_Disk_commitWhatWasBefore_30 : decode b_Disk_commitWhatWasBefore 30 = .ok (.aload_n 0, 1) := by decide +kernel
theorem d_Disk_commitWhatWasBefore_31 : decode b_Disk_commitWhatWasBefore 31 = .ok (.getfield 19, 3) := by decide +kernel
theorem d_Disk_commitWhatWasBefore_34 : decode b_Disk_commitWhatWasBefore 34 = .ok (.iload_n 1, 1) := by decide +kernel
theorem d_Disk_commitWhatWasBefore_35 : decode b_Disk_commitWhatWasBefore 35 = .ok (.invokestatic 64, 3) := by decide +kernel
theorem d_Disk_commitWhatWasBefore_38 : decode b_Disk_commitWhatWasBefore 38 = .ok (.aload_n 0, 1) := by decide +kernel
theorem d_Disk_commitWhatWasBefore_39 : decode b_Disk_commitWhatWasBefore 39 = .ok (.iload_n 1, 1) := by decide +kernel
theorem d_Disk_commitWhatWasBefore_40 : decode b_Disk_commitWhatWasBefore 40 = .ok (.invokevirtual 61, 3) := by decide +kernel
theorem d_Disk_commitWhatWasBefore_43 : decode b_Disk_commitWhatWasBefore 43 = .ok (.ifCond .eq 15, 3) := by decide +kernel
theorem d_Disk_commitWhatWasBefore_46 : decode b_Disk_commitWhatWasBefore 46 = .ok (.aload_n 0, 1) := by decide +kernel
theorem d_Disk_commitWhatWasBefore_47 : decode b_Disk_commitWhatWasBefore 47 = .ok (.getfield 19, 3) := by decide +kernel
theorem d_Disk_commitWhatWasBefore_50 : decode b_Disk_commitWhatWasBefore 50 = .ok (.aload_n 0, 1) := by decide +kernel
theorem d_Disk_commitWhatWasBefore_51 : decode b_Disk_commitWhatWasBefore 51 = .ok (.getfield 15, 3) := by decide +kernel
theorem d_Disk_commitWhatWasBefore_54 : decode b_Disk_commitWhatWasBefore 54 = .ok (.iload_n 1, 1) := by decide +kernel
theorem d_Disk_commitWhatWasBefore_55 : decode b_Disk_commitWhatWasBefore 55 = .ok (.invokestatic 64, 3) := by decide +kernel
theorem d_Disk_commitWhatWasBefore_58 : decode b_Disk_commitWhatWasBefore 58 = .ok (.aload_n 0, 1) := by decide +kernel
theorem d_Disk_commitWhatWasBefore_59 : decode b_Disk_commitWhatWasBefore 59 = .ok (.iload_n 1, 1) := by decide +kernel
theorem d_Disk_commitWhatWasBefore_60 : decode b_Disk_commitWhatWasBefore 60 = .ok (.invokevirtual 68, 3) := by decide +kernel
theorem d_Disk_commitWhatWasBefore_63 : decode b_Disk_commitWhatWasBefore 63 = .ok (.iinc 1 1, 3) := by decide +kernel
theorem d_Disk_commitWhatWasBefore_66 : decode b_Disk_commitWhatWasBefore 66 = .ok (.goto (-64), 3) := by decide +kernel
theorem d_Disk_commitWhatWasBefore_69 : decode b_Disk_commitWhatWasBefore 69 = .ok (.aload_n 0, 1) := by decide +kernel
theorem d_Disk_commitWhatWasBefore_70 : decode b_Disk_commitWhatWasBefore 70 = .ok (.dup, 1) := by decide +kernel
theorem d_Disk_commitWhatWasBefore_71 : decode b_Disk_commitWhatWasBefore 71 = .ok (.getfield 32, 3) := by decide +kernel
theorem d_Disk_commitWhatWasBefore_74 : decode b_Disk_commitWhatWasBefore 74 = .ok (.iconst 1, 1) := by decide +kernel
theorem d_Disk_commitWhatWasBefore_75 : decode b_Disk_commitWhatWasBefore 75 = .ok (.iadd, 1) := by decide +kernel
theorem d_Disk_commitWhatWasBefore_76 : decode b_Disk_commitWhatWasBefore 76 = .ok (.putfield 32, 3) := by decide +kernel
theorem d_Disk_commitWhatWasBefore_79 : decode b_Disk_commitWhatWasBefore 79 = .ok (.return_, 1) := by decide +kernel
set_option maxHeartbeats 4000000 in
set_option maxRecDepth 100000 in
theorem c_Disk_commitWhatWasBefore (l : Launch) (D : va_G) (g : Nat → Nat) (k : Nat → ClassId) (L : Nat) (hL0 : 96 ≤ L) (hL : L ≤ 768) (u : DSt) : MuV l y_Disk_commitWhatWasBefore w_Disk_commitWhatWasBefore ({ frames := 2, cells := 0, slots := 0, locals := 82 }) [.ref (g 0)] D cl5 (tyC k) (wD g k L u) (wD g k L (cwb L u)) := by
  intro sz
  refine Met.ofW (cc := b_Disk_commitWhatWasBefore) (maxL := 2) (ret := none) (by decide) rfl ?_
  intro p e s m args below meth c s₁ B hml hv
  obtain ⟨rfl, hsz, hP, hK, hD0⟩ := hv
  have hx := B.exec
  have hb := B.bytes
  have hr := B.returns
  have hts := atoms_spec (ws := w_Disk_commitWhatWasBefore) B.pre
  have hTB : ∀ w ∈ lw_tb, w.before _ s = true := fun w h => hts w (List.mem_cons_of_mem _ h)
  have hown : s.vm.findClass R_Disk = some m.cls := findClass_of_methodNamed B.named
  have hlocks := B.notSynchronized
  subst hsz
  have hD := hD0.self (sz := s.heap.size)
  generalize hAe : va_A (wD g k L u) s.heap.size = A at hD ⊢
  have hA : ∀ q : Nat, s.heap.size ≤ q → A q := fun q h => by rw [← hAe]; exact Or.inr h
  have hS : va_S A s.heap s.heap [] := va_S.rf
  have hl := lv_entry ([.ref (g 0)]) (n := 2) (Nat.le_of_ble_eq_true rfl)
  rw [lg_entry_eq]
  generalize (lg_sl ([.ref (g 0)]) ++ List.replicate (2 - (lg_sl ([.ref (g 0)])).length) Slot.unset).toArray = ls at hl ⊢
  have hl : lv_has ls 2 [(0, .ref (g 0))] := hl
  refine lv_iconst (v := nI 0) hx hb d_Disk_commitWhatWasBefore_0 (by decide +kernel) ?_
  refine lv_istore_n (lv' := [(1, .int (nI 0)), (0, .ref (g 0))]) hx hb d_Disk_commitWhatWasBefore_1 rfl hl (by decide) rfl (fun ls hl => ?_)
  refine gz_loop 2 (fun (zz : (Nat × DSt)) H locs ls => match zz with | (b, v) => va_P D cl5 (wD g k L v) H ∧ va_D A (wD g k L v) ∧ va_S A s.heap H locs ∧ lv_has ls 2 [(0, .ref (g 0)), (1, .int (nI b))] ∧ (b ≤ L) ∧ (cwG L (L - b) b v = cwG L L 0 u)) (fun (zz : (Nat × DSt)) => match zz with | (b, v) => L - b) (fun zz H locs ls hI ih2 => ?_) (0, u) ⟨hP, hD, hS, lv_sub hl [1, 0] rfl, (by omega), rfl⟩
  obtain ⟨b, v⟩ := zz
  obtain ⟨hP, hD, hS, hl, hb1, hb2⟩ := hI
  refine lv_iload_n hx hb d_Disk_commitWhatWasBefore_2 rfl (lv_at hl 1 rfl) ?_
  refine lv_aload_n hx hb d_Disk_commitWhatWasBefore_3 rfl (lv_at hl 0 rfl) ?_
  refine va_get (D := D) (ci := 1) (v := .int (nI L)) (C := R_Disk) (T := T_Disk) (N := 7) hx hb hTB in_Disk hown hK hP 0 rfl rfl 0 (by decide) (hTB _ k_92) (fun _ h9 => h9) rfl d_Disk_commitWhatWasBefore_4 ?_
  refine gz_icmp_ge (tgt := 69) hx hb d_Disk_commitWhatWasBefore_7 (by decide) (by omega) (by omega) (fun h7 => ?_) (fun h7 => ?_)
  · have hb3 : b = L := by omega
    rw [hb3, Nat.sub_self] at hb2
    have hb2 : v = cwG L L 0 u := hb2
    refine lv_aload_n hx hb d_Disk_commitWhatWasBefore_69 rfl (lv_at hl 0 rfl) ?_
    refine lv_dup hx hb d_Disk_commitWhatWasBefore_70 rfl ?_
    refine va_get (D := D) (ci := 1) (v := .int (dEa v)) (C := R_Disk) (T := T_Disk) (N := 7) hx hb hTB in_Disk hown hK hP 0 rfl rfl 6 (by decide) (hTB _ k_98) (fun _ h9 => h9) rfl d_Disk_commitWhatWasBefore_71 ?_
    refine lv_iconst (v := nI 1) hx hb d_Disk_commitWhatWasBefore_74 (by decide +kernel) ?_
    refine lv_iadd hx hb d_Disk_commitWhatWasBefore_75 ?_
    refine va_put (D := D) (ci := 1) (v := .int ((dEa v) + (nI 1))) (ty := .int) (C := R_Disk) (T := T_Disk) (N := 7) hx hb hTB in_Disk t_Disk t_Disk_ok n_Disk hown hK hP hD hS 0 rfl rfl 6 (by decide) (hTB _ k_98) (fun _ h9 => h9) rfl (by decide +kernel) rfl rfl (Nat.le_of_ble_eq_true rfl) d_Disk_commitWhatWasBefore_76 (fun H locs hP hD hS => ?_)
    have hP : va_P D cl5 (wD g k L (sEa v ((dEa v) + (nI 1)))) H := hP
    have hD : va_D A (wD g k L (sEa v ((dEa v) + (nI 1)))) := hD
    have hP9 : va_P D cl5 (wD g k L (cwb L u)) H := (by unfold cwb; rw [← hb2]; exact hP)
    have hD9 : va_D A (wD g k L (cwb L u)) := (by unfold cwb; rw [← hb2]; exact hD)
    exact W.vret hx hb hr (fun tt9 ht9 hW9 => ⟨⟨(), rfl, trivial, ⟨by rw [ht9]; exact hP9, hD9⟩⟩, hS.F ht9⟩) hS.2.2 d_Disk_commitWhatWasBefore_79
  · refine lv_aload_n hx hb d_Disk_commitWhatWasBefore_10 rfl (lv_at hl 0 rfl) ?_
    refine va_get (D := D) (ci := 1) (v := .ref (g 4)) (C := R_Disk) (T := T_Disk) (N := 7) hx hb hTB in_Disk hown hK hP 0 rfl rfl 4 (by decide) (hTB _ k_96) (fun _ h9 => h9) rfl d_Disk_commitWhatWasBefore_11 ?_
    refine lv_iload_n hx hb d_Disk_commitWhatWasBefore_14 rfl (lv_at hl 1 rfl) ?_
    refine gz_zald hx hb hK hP 4 1 rfl rfl (i := b) (by omega) (by omega) d_Disk_commitWhatWasBefore_15 ?_
    refine gz_ifz_eq (tgt := 26) hx hb d_Disk_commitWhatWasBefore_16 (by decide) (fun h16 => ?_) (fun h16 => ?_)
    · refine lv_aload_n hx hb d_Disk_commitWhatWasBefore_26 rfl (lv_at hl 0 rfl) ?_
      refine va_get (D := D) (ci := 1) (v := .ref (g 1)) (C := R_Disk) (T := T_Disk) (N := 7) hx hb hTB in_Disk hown hK hP 0 rfl rfl 1 (by decide) (hTB _ k_93) (fun _ h9 => h9) rfl d_Disk_commitWhatWasBefore_27 ?_
      refine lv_aload_n hx hb d_Disk_commitWhatWasBefore_30 rfl (lv_at hl 0 rfl) ?_
      refine va_get (D := D) (ci := 1) (v := .ref (g 2)) (C := R_Disk) (T := T_Disk) (N := 7) hx hb hTB in_Disk hown hK hP 0 rfl rfl 2 (by decide) (hTB _ k_94) (fun _ h9 => h9) rfl d_Disk_commitWhatWasBefore_31 ?_
      refine lv_iload_n hx hb d_Disk_commitWhatWasBefore_34 rfl (lv_at hl 1 rfl) ?_
      refine gz_muS (As := [.ref (g 1), .ref (g 2), .int (nI b)]) (rest := []) (wc := (wA (g 1) (g 2) k L (dNow v) (dCom v))) (w1 := (wA (g 1) (g 2) k L (dNow v) (cpB (dNow v) (dCom v) b))) (wr := [(g 0, .inr (1, [.int (nI L), .ref (g 1), .ref (g 2), .ref (g 3), .ref (g 4), .ref (g 5), .int (dEa v)])), (g 3, .inl (k 0, L * 8, .inr (.inl (dBef v)))), (g 4, .inl (k 1, L, .inl (fun j => zI (dTou v j)))), (g 5, .inl (k 1, L, .inl (fun j => zI (dDif v j))))]) ⟨hx, hb, hml, hown, hTB⟩ (c_Disk_copyBlock l D (g 1) (g 2) k L hL0 hL (dNow v) (dCom v) b (by omega)) (cwS 3 hTB (gd_S k_172 k_173 k_52 k_174) rfl rfl rfl (by decide +kernel) ⟨Nat.le_of_ble_eq_true rfl, Nat.le_of_ble_eq_true rfl⟩) hK hP hD hA [1, 2] [0, 3, 4, 5] rfl rfl (by decide) rfl (by decide) (by decide) rfl hl.1 rfl (Nat.le_of_ble_eq_true rfl) d_Disk_commitWhatWasBefore_35 ⟨Nat.zero_le _, Nat.zero_le _⟩ hS (fun H locs hP hD hS => ?_)
      have hP : va_P D cl5 (wD g k L (sCom v (cpB (dNow v) (dCom v) b))) H := hP.sub [0, 4, 5, 1, 2, 3] rfl
      have hD : va_D A (wD g k L (sCom v (cpB (dNow v) (dCom v) b))) := hD.sub [0, 4, 5, 1, 2, 3] (by decide) rfl
      refine lv_aload_n hx hb d_Disk_commitWhatWasBefore_38 rfl (lv_at hl 0 rfl) ?_
      refine lv_iload_n hx hb d_Disk_commitWhatWasBefore_39 rfl (lv_at hl 1 rfl) ?_
      refine gz_roV (As := [.int (nI b)]) (rest := []) (wc := (wD g k L (sCom v (cpB (dNow v) (dCom v) b)))) ⟨hx, hb, hml, hown, hTB⟩ (c_Disk_isFree l D g k L hL0 hL (sCom v (cpB (dNow v) (dCom v) b)) (nI b)) (cwV 1 hTB (gd_V k_175 k_176 k_177 k_52 k_178) rfl rfl rfl (by decide +kernel) ⟨Nat.le_of_ble_eq_true rfl, Nat.le_of_ble_eq_true rfl⟩) hK hP [0, 1, 2, 3, 4, 5] rfl 0 rfl rfl rfl hl.1 rfl (Nat.le_of_ble_eq_true rfl) d_Disk_commitWhatWasBefore_40 ⟨Nat.zero_le _, Nat.zero_le _⟩ hS (fun H locs hP hS => ?_)
      refine gz_ifz_eq (tgt := 58) hx hb d_Disk_commitWhatWasBefore_43 (by decide) (fun h43 => ?_) (fun h43 => ?_)
      · refine lv_aload_n hx hb d_Disk_commitWhatWasBefore_58 rfl (lv_at hl 0 rfl) ?_
        refine lv_iload_n hx hb d_Disk_commitWhatWasBefore_59 rfl (lv_at hl 1 rfl) ?_
        refine gz_muV (As := [.int (nI b)]) (rest := []) (wc := (wD g k L (sCom v (cpB (dNow v) (dCom v) b)))) (w1 := (wD g k L (cmp (sCom v (cpB (dNow v) (dCom v) b)) b))) (wr := ([])) ⟨hx, hb, hml, hown, hTB⟩ (c_Disk_compare l D g k L hL0 hL (sCom v (cpB (dNow v) (dCom v) b)) b (by omega)) (cwV 1 hTB (gd_V k_160 k_162 k_2 k_52 k_163) rfl rfl rfl (by decide +kernel) ⟨Nat.le_of_ble_eq_true rfl, Nat.le_of_ble_eq_true rfl⟩) hK hP hD hA [0, 1, 2, 3, 4, 5] [] rfl rfl (by decide) rfl (by decide) (by decide) 0 rfl rfl rfl hl.1 rfl (Nat.le_of_ble_eq_true rfl) d_Disk_commitWhatWasBefore_60 ⟨Nat.zero_le _, Nat.zero_le _⟩ hS (fun H locs hP hD hS => ?_)
        have hP : va_P D cl5 (wD g k L (cmp (sCom v (cpB (dNow v) (dCom v) b)) b)) H := hP
        have hD : va_D A (wD g k L (cmp (sCom v (cpB (dNow v) (dCom v) b)) b)) := hD
        refine lv_iinc (v := nI (b + 1)) (lv' := [(1, .int (nI (b + 1))), (0, .ref (g 0))]) hx hb d_Disk_commitWhatWasBefore_63 hl (k := 1) rfl (nI_add b 1) (by decide) rfl (fun ls hl => ?_)
        refine lv_goto (tgt := 2) hx hb d_Disk_commitWhatWasBefore_66 (by decide) ?_
        exact ih2 (b + 1, cmp (sCom v (cpB (dNow v) (dCom v) b)) b) _ _ _ (by first | omega | (dsimp only; omega)) ⟨hP, hD, hS, lv_sub hl [1, 0] rfl, (by omega), (by rw [← hb2, show L - b = (L - (b + 1)) + 1 by omega]; rw [cwG_s]; first | rw [cw1_tt h16 (by rw [← frB_in (L := L) (by omega) hL]; exact h43)] | rw [cw1_tf h16 (by rw [← frB_in (L := L) (by omega) hL]; exact h43)] | rw [cw1_ft h16 (by rw [← frB_in (L := L) (by omega) hL]; exact h43)] | rw [cw1_ff h16 (by rw [← frB_in (L := L) (by omega) hL]; exact h43)])⟩
      · refine lv_aload_n hx hb d_Disk_commitWhatWasBefore_46 rfl (lv_at hl 0 rfl) ?_
        refine va_get (D := D) (ci := 1) (v := .ref (g 2)) (C := R_Disk) (T := T_Disk) (N := 7) hx hb hTB in_Disk hown hK hP 0 rfl rfl 2 (by decide) (hTB _ k_94) (fun _ h9 => h9) rfl d_Disk_commitWhatWasBefore_47 ?_
        refine lv_aload_n hx hb d_Disk_commitWhatWasBefore_50 rfl (lv_at hl 0 rfl) ?_
        refine va_get (D := D) (ci := 1) (v := .ref (g 1)) (C := R_Disk) (T := T_Disk) (N := 7) hx hb hTB in_Disk hown hK hP 0 rfl rfl 1 (by decide) (hTB _ k_93) (fun _ h9 => h9) rfl d_Disk_commitWhatWasBefore_51 ?_
        refine lv_iload_n hx hb d_Disk_commitWhatWasBefore_54 rfl (lv_at hl 1 rfl) ?_
        refine gz_muS (As := [.ref (g 2), .ref (g 1), .int (nI b)]) (rest := []) (wc := (wA (g 2) (g 1) k L (dCom (sCom v (cpB (dNow v) (dCom v) b))) (dNow (sCom v (cpB (dNow v) (dCom v) b))))) (w1 := (wA (g 2) (g 1) k L (dCom (sCom v (cpB (dNow v) (dCom v) b))) (cpB (dCom (sCom v (cpB (dNow v) (dCom v) b))) (dNow (sCom v (cpB (dNow v) (dCom v) b))) b))) (wr := [(g 0, .inr (1, [.int (nI L), .ref (g 1), .ref (g 2), .ref (g 3), .ref (g 4), .ref (g 5), .int (dEa (sCom v (cpB (dNow v) (dCom v) b)))])), (g 3, .inl (k 0, L * 8, .inr (.inl (dBef (sCom v (cpB (dNow v) (dCom v) b)))))), (g 4, .inl (k 1, L, .inl (fun j => zI (dTou (sCom v (cpB (dNow v) (dCom v) b)) j)))), (g 5, .inl (k 1, L, .inl (fun j => zI (dDif (sCom v (cpB (dNow v) (dCom v) b)) j))))]) ⟨hx, hb, hml, hown, hTB⟩ (c_Disk_copyBlock l D (g 2) (g 1) k L hL0 hL (dCom (sCom v (cpB (dNow v) (dCom v) b))) (dNow (sCom v (cpB (dNow v) (dCom v) b))) b (by omega)) (cwS 3 hTB (gd_S k_172 k_173 k_52 k_174) rfl rfl rfl (by decide +kernel) ⟨Nat.le_of_ble_eq_true rfl, Nat.le_of_ble_eq_true rfl⟩) hK hP hD hA [2, 1] [0, 3, 4, 5] rfl rfl (by decide) rfl (by decide) (by decide) rfl hl.1 rfl (Nat.le_of_ble_eq_true rfl) d_Disk_commitWhatWasBefore_55 ⟨Nat.zero_le _, Nat.zero_le _⟩ hS (fun H locs hP hD hS => ?_)
        have hP : va_P D cl5 (wD g k L (sNow (sCom v (cpB (dNow v) (dCom v) b)) (cpB (dCom (sCom v (cpB (dNow v) (dCom v) b))) (dNow (sCom v (cpB (dNow v) (dCom v) b))) b))) H := hP.sub [0, 5, 4, 1, 2, 3] rfl
        have hD : va_D A (wD g k L (sNow (sCom v (cpB (dNow v) (dCom v) b)) (cpB (dCom (sCom v (cpB (dNow v) (dCom v) b))) (dNow (sCom v (cpB (dNow v) (dCom v) b))) b))) := hD.sub [0, 5, 4, 1, 2, 3] (by decide) rfl
        refine lv_aload_n hx hb d_Disk_commitWhatWasBefore_58 rfl (lv_at hl 0 rfl) ?_
        refine lv_iload_n hx hb d_Disk_commitWhatWasBefore_59 rfl (lv_at hl 1 rfl) ?_
        refine gz_muV (As := [.int (nI b)]) (rest := []) (wc := (wD g k L (sNow (sCom v (cpB (dNow v) (dCom v) b)) (cpB (dCom (sCom v (cpB (dNow v) (dCom v) b))) (dNow (sCom v (cpB (dNow v) (dCom v) b))) b)))) (w1 := (wD g k L (cmp (sNow (sCom v (cpB (dNow v) (dCom v) b)) (cpB (dCom (sCom v (cpB (dNow v) (dCom v) b))) (dNow (sCom v (cpB (dNow v) (dCom v) b))) b)) b))) (wr := ([])) ⟨hx, hb, hml, hown, hTB⟩ (c_Disk_compare l D g k L hL0 hL (sNow (sCom v (cpB (dNow v) (dCom v) b)) (cpB (dCom (sCom v (cpB (dNow v) (dCom v) b))) (dNow (sCom v (cpB (dNow v) (dCom v) b))) b)) b (by omega)) (cwV 1 hTB (gd_V k_160 k_162 k_2 k_52 k_163) rfl rfl rfl (by decide +kernel) ⟨Nat.le_of_ble_eq_true rfl, Nat.le_of_ble_eq_true rfl⟩) hK hP hD hA [0, 1, 2, 3, 4, 5] [] rfl rfl (by decide) rfl (by decide) (by decide) 0 rfl rfl rfl hl.1 rfl (Nat.le_of_ble_eq_true rfl) d_Disk_commitWhatWasBefore_60 ⟨Nat.zero_le _, Nat.zero_le _⟩ hS (fun H locs hP hD hS => ?_)
        have hP : va_P D cl5 (wD g k L (cmp (sNow (sCom v (cpB (dNow v) (dCom v) b)) (cpB (dCom (sCom v (cpB (dNow v) (dCom v) b))) (dNow (sCom v (cpB (dNow v) (dCom v) b))) b)) b)) H := hP
        have hD : va_D A (wD g k L (cmp (sNow (sCom v (cpB (dNow v) (dCom v) b)) (cpB (dCom (sCom v (cpB (dNow v) (dCom v) b))) (dNow (sCom v (cpB (dNow v) (dCom v) b))) b)) b)) := hD
        refine lv_iinc (v := nI (b + 1)) (lv' := [(1, .int (nI (b + 1))), (0, .ref (g 0))]) hx hb d_Disk_commitWhatWasBefore_63 hl (k := 1) rfl (nI_add b 1) (by decide) rfl (fun ls hl => ?_)
        refine lv_goto (tgt := 2) hx hb d_Disk_commitWhatWasBefore_66 (by decide) ?_
        exact ih2 (b + 1, cmp (sNow (sCom v (cpB (dNow v) (dCom v) b)) (cpB (dCom (sCom v (cpB (dNow v) (dCom v) b))) (dNow (sCom v (cpB (dNow v) (dCom v) b))) b)) b) _ _ _ (by first | omega | (dsimp only; omega)) ⟨hP, hD, hS, lv_sub hl [1, 0] rfl, (by omega), (by rw [← hb2, show L - b = (L - (b + 1)) + 1 by omega]; rw [cwG_s]; first | rw [cw1_tt h16 (by rw [← frB_in (L := L) (by omega) hL]; exact h43)] | rw [cw1_tf h16 (by rw [← frB_in (L := L) (by omega) hL]; exact h43)] | rw [cw1_ft h16 (by rw [← frB_in (L := L) (by omega) hL]; exact h43)] | rw [cw1_ff h16 (by rw [← frB_in (L := L) (by omega) hL]; exact h43)])⟩
    · refine lv_aload_n hx hb d_Disk_commitWhatWasBefore_19 rfl (lv_at hl 0 rfl) ?_
      refine va_get (D := D) (ci := 1) (v := .ref (g 3)) (C := R_Disk) (T := T_Disk) (N := 7) hx hb hTB in_Disk hown hK hP 0 rfl rfl 3 (by decide) (hTB _ k_95) (fun _ h9 => h9) rfl d_Disk_commitWhatWasBefore_20 ?_
      refine lv_goto (tgt := 30) hx hb d_Disk_commitWhatWasBefore_23 (by decide) ?_
      refine lv_aload_n hx hb d_Disk_commitWhatWasBefore_30 rfl (lv_at hl 0 rfl) ?_
      refine va_get (D := D) (ci := 1) (v := .ref (g 2)) (C := R_Disk) (T := T_Disk) (N := 7) hx hb hTB in_Disk hown hK hP 0 rfl rfl 2 (by decide) (hTB _ k_94) (fun _ h9 => h9) rfl d_Disk_commitWhatWasBefore_31 ?_
      refine lv_iload_n hx hb d_Disk_commitWhatWasBefore_34 rfl (lv_at hl 1 rfl) ?_
      refine gz_muS (As := [.ref (g 3), .ref (g 2), .int (nI b)]) (rest := []) (wc := (wA (g 3) (g 2) k L (dBef v) (dCom v))) (w1 := (wA (g 3) (g 2) k L (dBef v) (cpB (dBef v) (dCom v) b))) (wr := [(g 0, .inr (1, [.int (nI L), .ref (g 1), .ref (g 2), .ref (g 3), .ref (g 4), .ref (g 5), .int (dEa v)])), (g 1, .inl (k 0, L * 8, .inr (.inl (dNow v)))), (g 4, .inl (k 1, L, .inl (fun j => zI (dTou v j)))), (g 5, .inl (k 1, L, .inl (fun j => zI (dDif v j))))]) ⟨hx, hb, hml, hown, hTB⟩ (c_Disk_copyBlock l D (g 3) (g 2) k L hL0 hL (dBef v) (dCom v) b (by omega)) (cwS 3 hTB (gd_S k_172 k_173 k_52 k_174) rfl rfl rfl (by decide +kernel) ⟨Nat.le_of_ble_eq_true rfl, Nat.le_of_ble_eq_true rfl⟩) hK hP hD hA [3, 2] [0, 1, 4, 5] rfl rfl (by decide) rfl (by decide) (by decide) rfl hl.1 rfl (Nat.le_of_ble_eq_true rfl) d_Disk_commitWhatWasBefore_35 ⟨Nat.zero_le _, Nat.zero_le _⟩ hS (fun H locs hP hD hS => ?_)
      have hP : va_P D cl5 (wD g k L (sCom v (cpB (dBef v) (dCom v) b))) H := hP.sub [0, 1, 5, 4, 2, 3] rfl
      have hD : va_D A (wD g k L (sCom v (cpB (dBef v) (dCom v) b))) := hD.sub [0, 1, 5, 4, 2, 3] (by decide) rfl
      refine lv_aload_n hx hb d_Disk_commitWhatWasBefore_38 rfl (lv_at hl 0 rfl) ?_
      refine lv_iload_n hx hb d_Disk_commitWhatWasBefore_39 rfl (lv_at hl 1 rfl) ?_
      refine gz_roV (As := [.int (nI b)]) (rest := []) (wc := (wD g k L (sCom v (cpB (dBef v) (dCom v) b)))) ⟨hx, hb, hml, hown, hTB⟩ (c_Disk_isFree l D g k L hL0 hL (sCom v (cpB (dBef v) (dCom v) b)) (nI b)) (cwV 1 hTB (gd_V k_175 k_176 k_177 k_52 k_178) rfl rfl rfl (by decide +kernel) ⟨Nat.le_of_ble_eq_true rfl, Nat.le_of_ble_eq_true rfl⟩) hK hP [0, 1, 2, 3, 4, 5] rfl 0 rfl rfl rfl hl.1 rfl (Nat.le_of_ble_eq_true rfl) d_Disk_commitWhatWasBefore_40 ⟨Nat.zero_le _, Nat.zero_le _⟩ hS (fun H locs hP hS => ?_)
      refine gz_ifz_eq (tgt := 58) hx hb d_Disk_commitWhatWasBefore_43 (by decide) (fun h43 => ?_) (fun h43 => ?_)
      · refine lv_aload_n hx hb d_Disk_commitWhatWasBefore_58 rfl (lv_at hl 0 rfl) ?_
        refine lv_iload_n hx hb d_Disk_commitWhatWasBefore_59 rfl (lv_at hl 1 rfl) ?_
        refine gz_muV (As := [.int (nI b)]) (rest := []) (wc := (wD g k L (sCom v (cpB (dBef v) (dCom v) b)))) (w1 := (wD g k L (cmp (sCom v (cpB (dBef v) (dCom v) b)) b))) (wr := ([])) ⟨hx, hb, hml, hown, hTB⟩ (c_Disk_compare l D g k L hL0 hL (sCom v (cpB (dBef v) (dCom v) b)) b (by omega)) (cwV 1 hTB (gd_V k_160 k_162 k_2 k_52 k_163) rfl rfl rfl (by decide +kernel) ⟨Nat.le_of_ble_eq_true rfl, Nat.le_of_ble_eq_true rfl⟩) hK hP hD hA [0, 1, 2, 3, 4, 5] [] rfl rfl (by decide) rfl (by decide) (by decide) 0 rfl rfl rfl hl.1 rfl (Nat.le_of_ble_eq_true rfl) d_Disk_commitWhatWasBefore_60 ⟨Nat.zero_le _, Nat.zero_le _⟩ hS (fun H locs hP hD hS => ?_)
        have hP : va_P D cl5 (wD g k L (cmp (sCom v (cpB (dBef v) (dCom v) b)) b)) H := hP
        have hD : va_D A (wD g k L (cmp (sCom v (cpB (dBef v) (dCom v) b)) b)) := hD
        refine lv_iinc (v := nI (b + 1)) (lv' := [(1, .int (nI (b + 1))), (0, .ref (g 0))]) hx hb d_Disk_commitWhatWasBefore_63 hl (k := 1) rfl (nI_add b 1) (by decide) rfl (fun ls hl => ?_)
        refine lv_goto (tgt := 2) hx hb d_Disk_commitWhatWasBefore_66 (by decide) ?_
        exact ih2 (b + 1, cmp (sCom v (cpB (dBef v) (dCom v) b)) b) _ _ _ (by first | omega | (dsimp only; omega)) ⟨hP, hD, hS, lv_sub hl [1, 0] rfl, (by omega), (by rw [← hb2, show L - b = (L - (b + 1)) + 1 by omega]; rw [cwG_s]; first | rw [cw1_tt h16 (by rw [← frB_in (L := L) (by omega) hL]; exact h43)] | rw [cw1_tf h16 (by rw [← frB_in (L := L) (by omega) hL]; exact h43)] | rw [cw1_ft h16 (by rw [← frB_in (L := L) (by omega) hL]; exact h43)] | rw [cw1_ff h16 (by rw [← frB_in (L := L) (by omega) hL]; exact h43)])⟩
      · refine lv_aload_n hx hb d_Disk_commitWhatWasBefore_46 rfl (lv_at hl 0 rfl) ?_
        refine va_get (D := D) (ci := 1) (v := .ref (g 2)) (C := R_Disk) (T := T_Disk) (N := 7) hx hb hTB in_Disk hown hK hP 0 rfl rfl 2 (by decide) (hTB _ k_94) (fun _ h9 => h9) rfl d_Disk_commitWhatWasBefore_47 ?_
        refine lv_aload_n hx hb d_Disk_commitWhatWasBefore_50 rfl (lv_at hl 0 rfl) ?_
        refine va_get (D := D) (ci := 1) (v := .ref (g 1)) (C := R_Disk) (T := T_Disk) (N := 7) hx hb hTB in_Disk hown hK hP 0 rfl rfl 1 (by decide) (hTB _ k_93) (fun _ h9 => h9) rfl d_Disk_commitWhatWasBefore_51 ?_
        refine lv_iload_n hx hb d_Disk_commitWhatWasBefore_54 rfl (lv_at hl 1 rfl) ?_
        refine gz_muS (As := [.ref (g 2), .ref (g 1), .int (nI b)]) (rest := []) (wc := (wA (g 2) (g 1) k L (dCom (sCom v (cpB (dBef v) (dCom v) b))) (dNow (sCom v (cpB (dBef v) (dCom v) b))))) (w1 := (wA (g 2) (g 1) k L (dCom (sCom v (cpB (dBef v) (dCom v) b))) (cpB (dCom (sCom v (cpB (dBef v) (dCom v) b))) (dNow (sCom v (cpB (dBef v) (dCom v) b))) b))) (wr := [(g 0, .inr (1, [.int (nI L), .ref (g 1), .ref (g 2), .ref (g 3), .ref (g 4), .ref (g 5), .int (dEa (sCom v (cpB (dBef v) (dCom v) b)))])), (g 3, .inl (k 0, L * 8, .inr (.inl (dBef (sCom v (cpB (dBef v) (dCom v) b)))))), (g 4, .inl (k 1, L, .inl (fun j => zI (dTou (sCom v (cpB (dBef v) (dCom v) b)) j)))), (g 5, .inl (k 1, L, .inl (fun j => zI (dDif (sCom v (cpB (dBef v) (dCom v) b)) j))))]) ⟨hx, hb, hml, hown, hTB⟩ (c_Disk_copyBlock l D (g 2) (g 1) k L hL0 hL (dCom (sCom v (cpB (dBef v) (dCom v) b))) (dNow (sCom v (cpB (dBef v) (dCom v) b))) b (by omega)) (cwS 3 hTB (gd_S k_172 k_173 k_52 k_174) rfl rfl rfl (by decide +kernel) ⟨Nat.le_of_ble_eq_true rfl, Nat.le_of_ble_eq_true rfl⟩) hK hP hD hA [2, 1] [0, 3, 4, 5] rfl rfl (by decide) rfl (by decide) (by decide) rfl hl.1 rfl (Nat.le_of_ble_eq_true rfl) d_Disk_commitWhatWasBefore_55 ⟨Nat.zero_le _, Nat.zero_le _⟩ hS (fun H locs hP hD hS => ?_)
        have hP : va_P D cl5 (wD g k L (sNow (sCom v (cpB (dBef v) (dCom v) b)) (cpB (dCom (sCom v (cpB (dBef v) (dCom v) b))) (dNow (sCom v (cpB (dBef v) (dCom v) b))) b))) H := hP.sub [0, 5, 4, 1, 2, 3] rfl
        have hD : va_D A (wD g k L (sNow (sCom v (cpB (dBef v) (dCom v) b)) (cpB (dCom (sCom v (cpB (dBef v) (dCom v) b))) (dNow (sCom v (cpB (dBef v) (dCom v) b))) b))) := hD.sub [0, 5, 4, 1, 2, 3] (by decide) rfl
        refine lv_aload_n hx hb d_Disk_commitWhatWasBefore_58 rfl (lv_at hl 0 rfl) ?_
        refine lv_iload_n hx hb d_Disk_commitWhatWasBefore_59 rfl (lv_at hl 1 rfl) ?_
        refine gz_muV (As := [.int (nI b)]) (rest := []) (wc := (wD g k L (sNow (sCom v (cpB (dBef v) (dCom v) b)) (cpB (dCom (sCom v (cpB (dBef v) (dCom v) b))) (dNow (sCom v (cpB (dBef v) (dCom v) b))) b)))) (w1 := (wD g k L (cmp (sNow (sCom v (cpB (dBef v) (dCom v) b)) (cpB (dCom (sCom v (cpB (dBef v) (dCom v) b))) (dNow (sCom v (cpB (dBef v) (dCom v) b))) b)) b))) (wr := ([])) ⟨hx, hb, hml, hown, hTB⟩ (c_Disk_compare l D g k L hL0 hL (sNow (sCom v (cpB (dBef v) (dCom v) b)) (cpB (dCom (sCom v (cpB (dBef v) (dCom v) b))) (dNow (sCom v (cpB (dBef v) (dCom v) b))) b)) b (by omega)) (cwV 1 hTB (gd_V k_160 k_162 k_2 k_52 k_163) rfl rfl rfl (by decide +kernel) ⟨Nat.le_of_ble_eq_true rfl, Nat.le_of_ble_eq_true rfl⟩) hK hP hD hA [0, 1, 2, 3, 4, 5] [] rfl rfl (by decide) rfl (by decide) (by decide) 0 rfl rfl rfl hl.1 rfl (Nat.le_of_ble_eq_true rfl) d_Disk_commitWhatWasBefore_60 ⟨Nat.zero_le _, Nat.zero_le _⟩ hS (fun H locs hP hD hS => ?_)
        have hP : va_P D cl5 (wD g k L (cmp (sNow (sCom v (cpB (dBef v) (dCom v) b)) (cpB (dCom (sCom v (cpB (dBef v) (dCom v) b))) (dNow (sCom v (cpB (dBef v) (dCom v) b))) b)) b)) H := hP
        have hD : va_D A (wD g k L (cmp (sNow (sCom v (cpB (dBef v) (dCom v) b)) (cpB (dCom (sCom v (cpB (dBef v) (dCom v) b))) (dNow (sCom v (cpB (dBef v) (dCom v) b))) b)) b)) := hD
        refine lv_iinc (v := nI (b + 1)) (lv' := [(1, .int (nI (b + 1))), (0, .ref (g 0))]) hx hb d_Disk_commitWhatWasBefore_63 hl (k := 1) rfl (nI_add b 1) (by decide) rfl (fun ls hl => ?_)
        refine lv_goto (tgt := 2) hx hb d_Disk_commitWhatWasBefore_66 (by decide) ?_
        exact ih2 (b + 1, cmp (sNow (sCom v (cpB (dBef v) (dCom v) b)) (cpB (dCom (sCom v (cpB (dBef v) (dCom v) b))) (dNow (sCom v (cpB (dBef v) (dCom v) b))) b)) b) _ _ _ (by first | omega | (dsimp only; omega)) ⟨hP, hD, hS, lv_sub hl [1, 0] rfl, (by omega), (by rw [← hb2, show L - b = (L - (b + 1)) + 1 by omega]; rw [cwG_s]; first | rw [cw1_tt h16 (by rw [← frB_in (L := L) (by omega) hL]; exact h43)] | rw [cw1_tf h16 (by rw [← frB_in (L := L) (by omega) hL]; exact h43)] | rw [cw1_ft h16 (by rw [← frB_in (L := L) (by omega) hL]; exact h43)] | rw [cw1_ff h16 (by rw [← frB_in (L := L) (by omega) hL]; exact h43)])⟩
theorem d_Disk_settle_0 : decode b_Disk_settle 0 = .ok (.iconst 0, 1) := by decide +kernel
theorem d_Disk_settle_1 : decode b_Disk_settle 1 = .ok (.istore_n 1, 1) := by decide +kernel
theorem d_Disk_settle_2 : decode b_Disk_settle 2 = .ok (.iload_n 1, 1) := by decide +kernel
theorem d_Disk_settle_3 : decode b_Disk_settle 3 = .ok (.aload_n 0, 1) := by decide +kernel
theorem d_Disk_settle_4 : decode b_Disk_settle 4 = .ok (.getfield 9, 3) := by decide +kernel
theorem d_Disk_settle_7 : decode b_Disk_settle 7 = .ok (.if_icmp .ge 23, 3) := by decide +kernel
theorem d_Disk_settle_10 : decode b_Disk_settle 10 = .ok (.aload_n 0, 1) := by decide +kernel
theorem d_Disk_settle_11 : decode b_Disk_settle 11 = .ok (.getfield 25, 3) := by decide +kernel
theorem d_Disk_settle_14 : decode b_Disk_settle 14 = .ok (.iload_n 1, 1) := by decide +kernel
theorem d_Disk_settle_15 : decode b_Disk_settle 15 = .ok (.baload, 1) := by decide +kernel
theorem d_Disk_settle_16 : decode b_Disk_settle 16 = .ok (.ifCond .eq 8, 3) := by decide +kernel
theorem d_Disk_settle_19 : decode b_Disk_settle 19 = .ok (.aload_n 0, 1) := by decide +kernel
theorem d_Disk_settle_20 : decode b_Disk_settle 20 = .ok (.iload_n 1, 1) := by decide +kernel
theorem d_Disk_settle_21 : decode b_Disk_settle 21 = .ok (.invokevirtual 68, 3) := by decide +kernel
theorem d_Disk_settle_24 : decode b_Disk_settle 24 = .ok (.iinc 1 1, 3) := by decide +kernel
theorem d_Disk_settle_27 : decode b_Disk_settle 27 = .ok (.goto (-25), 3) := by decide +kernel
theorem d_Disk_settle_30 : decode b_Disk_settle 30 = .ok (.aload_n 0, 1) := by decide +kernel
theorem d_Disk_settle_31 : decode b_Disk_settle 31 = .ok (.invokevirtual 71, 3) := by decide +kernel
theorem d_Disk_settle_34 : decode b_Disk_settle 34 = .ok (.bipush 24, 2) := by decide +kernel
theorem d_Disk_settle_36 : decode b_Disk_settle 36 = .ok (.if_icmp .le 7, 3) := by decide +kernel
theorem d_Disk_settle_39 : decode b_Disk_settle 39 = .ok (.aload_n 0, 1) := by decide +kernel
theorem d_Disk_settle_40 : decode b_Disk_settle 40 = .ok (.invokevirtual 75, 3) := by decide +kernel
theorem d_Disk_settle_43 : decode b_Disk_settle 43 = .ok (.aload_n 0, 1) := by decide +kernel
theorem d_Disk_settle_44 : decode b_Disk_settle 44 = .ok (.invokevirtual 78, 3) := by decide +kernel
theorem d_Disk_settle_47 : decode b_Disk_settle 47 = .ok (.return_, 1) := by decide +kernel
set_option maxHeartbeats 4000000 in
set_option maxRecDepth 100000 in
theorem c_Disk_settle (l : Launch) (D : va_G) (g : Nat → Nat) (k : Nat → ClassId) (L : Nat) (hL0 : 96 ≤ L) (hL : L ≤ 768) (u : DSt) : MuV l y_Disk_settle w_Disk_settle ({ frames := 3, cells := 0, slots := 0, locals := 103 }) [.ref (g 0)] D cl5 (tyC k) (wD g k L u) (wD g k L (stl L u)) := by
  intro sz
  refine Met.ofW (cc := b_Disk_settle) (maxL := 2) (ret := none) (by decide) rfl ?_
  intro p e s m args below meth c s₁ B hml hv
  obtain ⟨rfl, hsz, hP, hK, hD0⟩ := hv
  have hx := B.exec
  have hb := B.bytes
  have hr := B.returns
  have hts := atoms_spec (ws := w_Disk_settle) B.pre
  have hTB : ∀ w ∈ lw_tb, w.before _ s = true := fun w h => hts w (List.mem_cons_of_mem _ h)
  have hown : s.vm.findClass R_Disk = some m.cls := findClass_of_methodNamed B.named
  have hlocks := B.notSynchronized
  subst hsz
  have hD := hD0.self (sz := s.heap.size)
  generalize hAe : va_A (wD g k L u) s.heap.size = A at hD ⊢
  have hA : ∀ q : Nat, s.heap.size ≤ q → A q := fun q h => by rw [← hAe]; exact Or.inr h
  have hS : va_S A s.heap s.heap [] := va_S.rf
  have hl := lv_entry ([.ref (g 0)]) (n := 2) (Nat.le_of_ble_eq_true rfl)
  rw [lg_entry_eq]
  generalize (lg_sl ([.ref (g 0)]) ++ List.replicate (2 - (lg_sl ([.ref (g 0)])).length) Slot.unset).toArray = ls at hl ⊢
  have hl : lv_has ls 2 [(0, .ref (g 0))] := hl
  refine lv_iconst (v := nI 0) hx hb d_Disk_settle_0 (by decide +kernel) ?_
  refine lv_istore_n (lv' := [(1, .int (nI 0)), (0, .ref (g 0))]) hx hb d_Disk_settle_1 rfl hl (by decide) rfl (fun ls hl => ?_)
  refine gz_loop 2 (fun (zz : (Nat × DSt)) H locs ls => match zz with | (b, v) => va_P D cl5 (wD g k L v) H ∧ va_D A (wD g k L v) ∧ va_S A s.heap H locs ∧ lv_has ls 2 [(0, .ref (g 0)), (1, .int (nI b))] ∧ (b ≤ L) ∧ (stG (L - b) b v = stG L 0 u)) (fun (zz : (Nat × DSt)) => match zz with | (b, v) => L - b) (fun zz H locs ls hI ih2 => ?_) (0, u) ⟨hP, hD, hS, lv_sub hl [1, 0] rfl, (by omega), rfl⟩
  obtain ⟨b, v⟩ := zz
  obtain ⟨hP, hD, hS, hl, hb1, hb2⟩ := hI
  refine lv_iload_n hx hb d_Disk_settle_2 rfl (lv_at hl 1 rfl) ?_
  refine lv_aload_n hx hb d_Disk_settle_3 rfl (lv_at hl 0 rfl) ?_
  refine va_get (D := D) (ci := 1) (v := .int (nI L)) (C := R_Disk) (T := T_Disk) (N := 7) hx hb hTB in_Disk hown hK hP 0 rfl rfl 0 (by decide) (hTB _ k_92) (fun _ h9 => h9) rfl d_Disk_settle_4 ?_
  refine gz_icmp_ge (tgt := 30) hx hb d_Disk_settle_7 (by decide) (by omega) (by omega) (fun h7 => ?_) (fun h7 => ?_)
  · have hb3 : b = L := by omega
    rw [hb3, Nat.sub_self] at hb2
    have hb2 : v = stG L 0 u := hb2
    refine lv_aload_n hx hb d_Disk_settle_30 rfl (lv_at hl 0 rfl) ?_
    refine gz_roV (As := []) (rest := []) (wc := (wD g k L v)) ⟨hx, hb, hml, hown, hTB⟩ (c_Disk_differingBlocks l D g k L hL0 hL v) (cwV 0 hTB (gd_V k_164 k_165 k_166 k_52 k_167) rfl rfl rfl (by decide +kernel) ⟨Nat.le_of_ble_eq_true rfl, Nat.le_of_ble_eq_true rfl⟩) hK hP [0, 1, 2, 3, 4, 5] rfl 0 rfl rfl rfl hl.1 rfl (Nat.le_of_ble_eq_true rfl) d_Disk_settle_31 ⟨Nat.zero_le _, Nat.zero_le _⟩ hS (fun H locs hP hS => ?_)
    have := dcG_le (dDif v) L 0
    have : dct L (dDif v) ≤ L := this
    refine lv_bipush (v := nI 24) hx hb d_Disk_settle_34 (by decide +kernel) ?_
    refine gz_icmp_le (tgt := 43) hx hb d_Disk_settle_36 (by decide) (by omega) (by omega) (fun h36 => ?_) (fun h36 => ?_)
    · refine lv_aload_n hx hb d_Disk_settle_43 rfl (lv_at hl 0 rfl) ?_
      refine gz_muV (As := []) (rest := []) (wc := (wD g k L v)) (w1 := (wD g k L (fgt L v))) (wr := ([])) ⟨hx, hb, hml, hown, hTB⟩ (c_Disk_forgetTouched l D g k L hL0 hL v) (cwV 0 hTB (gd_V k_183 k_185 k_5 k_52 k_186) rfl rfl rfl (by decide +kernel) ⟨Nat.le_of_ble_eq_true rfl, Nat.le_of_ble_eq_true rfl⟩) hK hP hD hA [0, 1, 2, 3, 4, 5] [] rfl rfl (by decide) rfl (by decide) (by decide) 0 rfl rfl rfl hl.1 rfl (Nat.le_of_ble_eq_true rfl) d_Disk_settle_44 ⟨Nat.zero_le _, Nat.zero_le _⟩ hS (fun H locs hP hD hS => ?_)
      have hP : va_P D cl5 (wD g k L (fgt L v)) H := hP
      have hD : va_D A (wD g k L (fgt L v)) := hD
      have hP9 : va_P D cl5 (wD g k L (stl L u)) H := (by unfold stl; rw [← hb2, if_neg (by omega)]; exact hP)
      have hD9 : va_D A (wD g k L (stl L u)) := (by unfold stl; rw [← hb2, if_neg (by omega)]; exact hD)
      exact W.vret hx hb hr (fun tt9 ht9 hW9 => ⟨⟨(), rfl, trivial, ⟨by rw [ht9]; exact hP9, hD9⟩⟩, hS.F ht9⟩) hS.2.2 d_Disk_settle_47
    · refine lv_aload_n hx hb d_Disk_settle_39 rfl (lv_at hl 0 rfl) ?_
      refine gz_muV (As := []) (rest := []) (wc := (wD g k L v)) (w1 := (wD g k L (cwb L v))) (wr := ([])) ⟨hx, hb, hml, hown, hTB⟩ (c_Disk_commitWhatWasBefore l D g k L hL0 hL v) (cwV 0 hTB (gd_V k_168 k_170 k_3 k_52 k_171) rfl rfl rfl (by decide +kernel) ⟨Nat.le_of_ble_eq_true rfl, Nat.le_of_ble_eq_true rfl⟩) hK hP hD hA [0, 1, 2, 3, 4, 5] [] rfl rfl (by decide) rfl (by decide) (by decide) 0 rfl rfl rfl hl.1 rfl (Nat.le_of_ble_eq_true rfl) d_Disk_settle_40 ⟨Nat.zero_le _, Nat.zero_le _⟩ hS (fun H locs hP hD hS => ?_)
      have hP : va_P D cl5 (wD g k L (cwb L v)) H := hP
      have hD : va_D A (wD g k L (cwb L v)) := hD
      refine lv_aload_n hx hb d_Disk_settle_43 rfl (lv_at hl 0 rfl) ?_
      refine gz_muV (As := []) (rest := []) (wc := (wD g k L (cwb L v))) (w1 := (wD g k L (fgt L (cwb L v)))) (wr := ([])) ⟨hx, hb, hml, hown, hTB⟩ (c_Disk_forgetTouched l D g k L hL0 hL (cwb L v)) (cwV 0 hTB (gd_V k_183 k_185 k_5 k_52 k_186) rfl rfl rfl (by decide +kernel) ⟨Nat.le_of_ble_eq_true rfl, Nat.le_of_ble_eq_true rfl⟩) hK hP hD hA [0, 1, 2, 3, 4, 5] [] rfl rfl (by decide) rfl (by decide) (by decide) 0 rfl rfl rfl hl.1 rfl (Nat.le_of_ble_eq_true rfl) d_Disk_settle_44 ⟨Nat.zero_le _, Nat.zero_le _⟩ hS (fun H locs hP hD hS => ?_)
      have hP : va_P D cl5 (wD g k L (fgt L (cwb L v))) H := hP
      have hD : va_D A (wD g k L (fgt L (cwb L v))) := hD
      have hP9 : va_P D cl5 (wD g k L (stl L u)) H := (by unfold stl; rw [← hb2, if_pos h36]; exact hP)
      have hD9 : va_D A (wD g k L (stl L u)) := (by unfold stl; rw [← hb2, if_pos h36]; exact hD)
      exact W.vret hx hb hr (fun tt9 ht9 hW9 => ⟨⟨(), rfl, trivial, ⟨by rw [ht9]; exact hP9, hD9⟩⟩, hS.F ht9⟩) hS.2.2 d_Disk_settle_47
  · refine lv_aload_n hx hb d_Disk_settle_10 rfl (lv_at hl 0 rfl) ?_
    refine va_get (D := D) (ci := 1) (v := .ref (g 4)) (C := R_Disk) (T := T_Disk) (N := 7) hx hb hTB in_Disk hown hK hP 0 rfl rfl 4 (by decide) (hTB _ k_96) (fun _ h9 => h9) rfl d_Disk_settle_11 ?_
    refine lv_iload_n hx hb d_Disk_settle_14 rfl (lv_at hl 1 rfl) ?_
    refine gz_zald hx hb hK hP 4 1 rfl rfl (i := b) (by omega) (by omega) d_Disk_settle_15 ?_
    refine gz_ifz_eq (tgt := 24) hx hb d_Disk_settle_16 (by decide) (fun h16 => ?_) (fun h16 => ?_)
    · refine lv_iinc (v := nI (b + 1)) (lv' := [(1, .int (nI (b + 1))), (0, .ref (g 0))]) hx hb d_Disk_settle_24 hl (k := 1) rfl (nI_add b 1) (by decide) rfl (fun ls hl => ?_)
      refine lv_goto (tgt := 2) hx hb d_Disk_settle_27 (by decide) ?_
      exact ih2 (b + 1, v) _ _ _ (by first | omega | (dsimp only; omega)) ⟨hP, hD, hS, lv_sub hl [1, 0] rfl, (by omega), (by rw [← hb2, show L - b = (L - (b + 1)) + 1 by omega]; rw [stG_s]; first | rw [if_pos h16] | rw [if_neg (by rw [h16]; decide)])⟩
    · refine lv_aload_n hx hb d_Disk_settle_19 rfl (lv_at hl 0 rfl) ?_
      refine lv_iload_n hx hb d_Disk_settle_20 rfl (lv_at hl 1 rfl) ?_
      refine gz_muV (As := [.int (nI b)]) (rest := []) (wc := (wD g k L v)) (w1 := (wD g k L (cmp v b))) (wr := ([])) ⟨hx, hb, hml, hown, hTB⟩ (c_Disk_compare l D g k L hL0 hL v b (by omega)) (cwV 1 hTB (gd_V k_160 k_162 k_2 k_52 k_163) rfl rfl rfl (by decide +kernel) ⟨Nat.le_of_ble_eq_true rfl, Nat.le_of_ble_eq_true rfl⟩) hK hP hD hA [0, 1, 2, 3, 4, 5] [] rfl rfl (by decide) rfl (by decide) (by decide) 0 rfl rfl rfl hl.1 rfl (Nat.le_of_ble_eq_true rfl) d_Disk_settle_21 ⟨Nat.zero_le _, Nat.zero_le _⟩ hS (fun H locs hP hD hS => ?_)
      have hP : va_P D cl5 (wD g k L (cmp v b)) H := hP
      have hD : va_D A (wD g k L (cmp v b)) := hD
      refine lv_iinc (v := nI (b + 1)) (lv' := [(1, .int (nI (b + 1))), (0, .ref (g 0))]) hx hb d_Disk_settle_24 hl (k := 1) rfl (nI_add b 1) (by decide) rfl (fun ls hl => ?_)
      refine lv_goto (tgt := 2) hx hb d_Disk_settle_27 (by decide) ?_
      exact ih2 (b + 1, cmp v b) _ _ _ (by first | omega | (dsimp only; omega)) ⟨hP, hD, hS, lv_sub hl [1, 0] rfl, (by omega), (by rw [← hb2, show L - b = (L - (b + 1)) + 1 by omega]; rw [stG_s]; first | rw [if_pos h16] | rw [if_neg (by rw [h16]; decide)])⟩
end
section
/-! THE INODES: what they read of the bytes, and what they do to the disk. -/
def iK (L : Nat) (a : Nat → Int64) (i : Nat) : Nat := bN L a (nI (1600 + 32 * i))
def iS (L : Nat) (a : Nat → Int64) (i : Nat) : Nat := pN L a (nI (1600 + 32 * i + 2))
def iX (L : Nat) (a : Nat → Int64) (i : Nat) : Nat := bN L a (nI (1600 + 32 * i + 1))
def xF (L : Nat) (a : Nat → Int64) (i j : Nat) : Nat := pN L a (nI (1600 + 32 * i + 4 + 3 * j))
def xL (L : Nat) (a : Nat → Int64) (i j : Nat) : Nat := bN L a (nI (1600 + 32 * i + 4 + 3 * j + 2))
theorem iK_lt (L : Nat) (a : Nat → Int64) (i : Nat) : iK L a i < 256 := bN_lt _ _ _
theorem iS_lt (L : Nat) (a : Nat → Int64) (i : Nat) : iS L a i < 65536 := pN_lt _ _ _
theorem iX_lt (L : Nat) (a : Nat → Int64) (i : Nat) : iX L a i < 256 := bN_lt _ _ _
theorem xF_lt (L : Nat) (a : Nat → Int64) (i j : Nat) : xF L a i j < 65536 := pN_lt _ _ _
theorem xL_lt (L : Nat) (a : Nat → Int64) (i j : Nat) : xL L a i j < 256 := bN_lt _ _ _
/-- leastFree: of n inodes from i on -/
def ilG (L : Nat) (a : Nat → Int64) : Nat → Nat → Int32
  | 0, _ => -1
  | n + 1, i => if iK L a i = 0 then nI i else ilG L a n (i + 1)
def ilf (L : Nat) (a : Nat → Int64) : Int32 := ilG L a 64 0
/-- ofKind -/
def ikG (L : Nat) (a : Nat → Int64) (c : Nat) : Nat → Nat → Nat
  | 0, _ => 0
  | n + 1, i => (if iK L a i = c then 1 else 0) + ikG L a c n (i + 1)
def iok (L : Nat) (a : Nat → Int64) (c : Nat) : Nat := ikG L a c 64 0
/-- placeOf: n extents from j on, t bytes left -/
def plG (L : Nat) (a : Nat → Int64) (i : Nat) : Nat → Nat → Nat → Int32
  | 0, _, _ => -1
  | n + 1, j, t => if t < xL L a i j * 64 then nI (xF L a i j * 64 + t) else plG L a i n (j + 1) (t - xL L a i j * 64)
def plc (L : Nat) (a : Nat → Int64) (i t : Nat) : Int32 := plG L a i (iX L a i) 0 t
/-- takeBlock: whether it could, and the disk behind it -/
abbrev tkC (L : Nat) (a : Nat → Int64) (i : Nat) : Prop := 0 < iX L a i ∧ xL L a i (iX L a i - 1) < 255 ∧ frB L a (nI (xF L a i (iX L a i - 1) + xL L a i (iX L a i - 1))) = true
def tkI (L : Nat) (u : DSt) (i : Nat) : Bool × DSt :=
  if tkC L (dNow u) i then (true, setB L (tkB L u (nI (xF L (dNow u) i (iX L (dNow u) i - 1) + xL L (dNow u) i (iX L (dNow u) i - 1)))) (nI (1600 + 32 * i + 4 + 3 * (iX L (dNow u) i - 1) + 2)) (nI (xL L (dNow u) i (iX L (dNow u) i - 1) + 1)))
  else if lfr L (dNow u) = -1 ∨ 8 ≤ iX L (dNow u) i then (false, u)
  else (true, setB L (setP L (setB L (tkB L u (lfr L (dNow u))) (nI (1600 + 32 * i + 1)) (nI (iX L (dNow u) i + 1))) (nI (1600 + 32 * i + 4 + 3 * iX L (dNow u) i)) (lfr L (dNow u))) (nI (1600 + 32 * i + 4 + 3 * iX L (dNow u) i + 2)) (nI 1))
theorem tkI_a {L : Nat} {u : DSt} {i : Nat} (h : tkC L (dNow u) i) : tkI L u i = (true, setB L (tkB L u (nI (xF L (dNow u) i (iX L (dNow u) i - 1) + xL L (dNow u) i (iX L (dNow u) i - 1)))) (nI (1600 + 32 * i + 4 + 3 * (iX L (dNow u) i - 1) + 2)) (nI (xL L (dNow u) i (iX L (dNow u) i - 1) + 1))) := by unfold tkI; rw [if_pos h]
theorem tkI_n {L : Nat} {u : DSt} {i : Nat} (h : ¬ tkC L (dNow u) i) (h2 : lfr L (dNow u) = -1 ∨ 8 ≤ iX L (dNow u) i) : tkI L u i = (false, u) := by unfold tkI; rw [if_neg h, if_pos h2]
theorem tkI_l {L : Nat} {u : DSt} {i : Nat} (h : ¬ tkC L (dNow u) i) (h2 : ¬ lfr L (dNow u) = -1) (h3 : iX L (dNow u) i < 8) : tkI L u i = (true, setB L (setP L (setB L (tkB L u (lfr L (dNow u))) (nI (1600 + 32 * i + 1)) (nI (iX L (dNow u) i + 1))) (nI (1600 + 32 * i + 4 + 3 * iX L (dNow u) i)) (lfr L (dNow u))) (nI (1600 + 32 * i + 4 + 3 * iX L (dNow u) i + 2)) (nI 1)) := by
  unfold tkI; rw [if_neg h, if_neg (by rintro (q | q); exact h2 q; omega)]
/-- giveBlockBack -/
def gv2 (L : Nat) (u : DSt) (i : Nat) : DSt := setB L (gvB L u (nI (xF L (dNow u) i (iX L (dNow u) i - 1) + xL L (dNow u) i (iX L (dNow u) i - 1)) - nI 1)) (nI (1600 + 32 * i + 4 + 3 * (iX L (dNow u) i - 1) + 2)) (nI (xL L (dNow u) i (iX L (dNow u) i - 1)) - nI 1)
def gvI (L : Nat) (u : DSt) (i : Nat) : DSt :=
  if iX L (dNow u) i = 0 then u
  else if xL L (dNow u) i (iX L (dNow u) i - 1) = 1 then setB L (setP L (gv2 L u i) (nI (1600 + 32 * i + 4 + 3 * (iX L (dNow u) i - 1))) (nI 0)) (nI (1600 + 32 * i + 1)) (nI (iX L (dNow u) i - 1))
  else gv2 L u i
theorem gvI_0 {L : Nat} {u : DSt} {i : Nat} (h : iX L (dNow u) i = 0) : gvI L u i = u := by unfold gvI; rw [if_pos h]
theorem gvI_1 {L : Nat} {u : DSt} {i : Nat} (h : 1 ≤ iX L (dNow u) i) (h2 : xL L (dNow u) i (iX L (dNow u) i - 1) = 1) : gvI L u i = setB L (setP L (gv2 L u i) (nI (1600 + 32 * i + 4 + 3 * (iX L (dNow u) i - 1))) (nI 0)) (nI (1600 + 32 * i + 1)) (nI (iX L (dNow u) i - 1)) := by unfold gvI; rw [if_neg (by omega), if_pos h2]
theorem gvI_n {L : Nat} {u : DSt} {i : Nat} (h : 1 ≤ iX L (dNow u) i) (h2 : xL L (dNow u) i (iX L (dNow u) i - 1) ≠ 1) : gvI L u i = gv2 L u i := by unfold gvI; rw [if_neg (by omega), if_neg h2]
theorem sub1_ge {n : Nat} (h : n < 1000000000) (h2 : 0 ≤ nI n - nI 1) : 1 ≤ n := by
  rcases Nat.eq_zero_or_pos n with q | q
  · subst q; exact absurd h2 (by decide)
  · exact q
theorem sub1_lt {n : Nat} (h : n < 1000000000) (h2 : ¬ 0 ≤ nI n - nI 1) : n = 0 := by
  rcases Nat.eq_zero_or_pos n with q | q
  · exact q
  · rw [pk_sub q] at h2; exact absurd (nI_pos' (by omega)) h2
/-- resize -/
def rtG (L i : Nat) : Nat → DSt → Bool × DSt
  | 0, u => (true, u)
  | n + 1, u => if (tkI L u i).1 = true then rtG L i n (tkI L u i).2 else (false, (tkI L u i).2)
def rgG (L i : Nat) : Nat → DSt → DSt
  | 0, u => u
  | n + 1, u => rgG L i n (gvI L u i)
def rzG (L i : Nat) : Nat → Nat → DSt → DSt
  | 0, _, u => u
  | n + 1, t, u => rzG L i n (t + 1) (setB L u (plc L (dNow u) i t) (nI 0))
abbrev blk (n : Nat) : Nat := (n + 64 - 1) / 64
def rs1 (L : Nat) (u : DSt) (i n : Nat) : Bool × DSt := rtG L i (blk n - blk (iS L (dNow u) i)) u
def rs2 (L : Nat) (u : DSt) (i n : Nat) : DSt := rgG L i (blk (iS L (dNow u) i) - blk n) (rs1 L u i n).2
def rs3 (L : Nat) (u : DSt) (i n : Nat) : DSt := rzG L i (min (iS L (dNow u) i) (blk n * 64) - n) n (rs2 L u i n)
def rsz (L : Nat) (u : DSt) (i n : Nat) : Bool × DSt := if (rs1 L u i n).1 = true then (true, setP L (rs3 L u i n) (nI (1600 + 32 * i + 2)) (nI n)) else (false, (rs1 L u i n).2)
def rel (L : Nat) (u : DSt) (i : Nat) : DSt := setB L (rsz L u i 0).2 (nI (1600 + 32 * i)) (nI 0)
end
section
theorem d_Inodes_inodePlace_0 : decode b_Inodes_inodePlace 0 = .ok (.sipush 1600, 3) := by decide +kernel
theorem d_Inodes_inodePlace_3 : decode b_Inodes_inodePlace 3 = .ok (.bipush 32, 2) := by decide +kernel
theorem d_Inodes_inodePlace_5 : decode b_Inodes_inodePlace 5 = .ok (.iload_n 0, 1) := by decide +kernel
theorem d_Inodes_inodePlace_6 : decode b_Inodes_inodePlace 6 = .ok (.imul, 1) := by decide +kernel
theorem d_Inodes_inodePlace_7 : decode b_Inodes_inodePlace 7 = .ok (.iadd, 1) := by decide +kernel
theorem d_Inodes_inodePlace_8 : decode b_Inodes_inodePlace 8 = .ok (.ireturn, 1) := by decide +kernel
set_option maxHeartbeats 4000000 in
set_option maxRecDepth 100000 in
theorem c_Inodes_inodePlace (l : Launch) (i : Nat) : RoI l y_Inodes_inodePlace w_Inodes_inodePlace ({ frames := 0, cells := 0, slots := 0, locals := 0 }) [.int (nI i)] (fun _ => True) (nI (1600 + 32 * i)) := by
  refine Met.ofW (cc := b_Inodes_inodePlace) (maxL := 1) (ret := (some .int)) (by decide) rfl ?_
  intro p e s m args below meth c s₁ B hml hv
  obtain ⟨rfl, -⟩ := hv
  have hx := B.exec
  have hb := B.bytes
  have hr := B.returns
  have hts := atoms_spec (ws := w_Inodes_inodePlace) B.pre
  have hTB : ∀ w ∈ lw_tb, w.before _ s = true := fun w h => hts w (List.mem_cons_of_mem _ h)
  have hown : s.vm.findClass R_Inodes = some m.cls := findClass_of_methodNamed B.named
  have hlocks := B.notSynchronized
  have hS : va_S (fun _ => False) s.heap s.heap [] := va_S.rf
  have hP : va_P (fun _ => 0, fun _ _ => 0) cl5 [] s.heap := fun k q h => by simp at h
  have hl := lv_entry ([.int (nI i)]) (n := 1) (Nat.le_of_ble_eq_true rfl)
  rw [lg_entry_eq]
  generalize (lg_sl ([.int (nI i)]) ++ List.replicate (1 - (lg_sl ([.int (nI i)])).length) Slot.unset).toArray = ls at hl ⊢
  have hl : lv_has ls 1 [(0, .int (nI i))] := hl
  refine lv_sipush (v := nI 1600) hx hb d_Inodes_inodePlace_0 (by decide +kernel) ?_
  refine lv_bipush (v := nI 32) hx hb d_Inodes_inodePlace_3 (by decide +kernel) ?_
  refine lv_iload_n hx hb d_Inodes_inodePlace_5 rfl (lv_at hl 0 rfl) ?_
  refine gz_imul hx hb d_Inodes_inodePlace_6 ?_
  refine gz_iadd hx hb d_Inodes_inodePlace_7 ?_
  exact W.iret (v := nI (1600 + (32 * i))) hx hb hr (fun tt9 ht9 hW9 => ⟨⟨_, (), rfl, rfl, trivial⟩, hS.F ht9⟩) hS.2.2 d_Inodes_inodePlace_8
theorem d_Inodes_extentPlace_0 : decode b_Inodes_extentPlace 0 = .ok (.iload_n 0, 1) := by decide +kernel
theorem d_Inodes_extentPlace_1 : decode b_Inodes_extentPlace 1 = .ok (.invokestatic 15, 3) := by decide +kernel
theorem d_Inodes_extentPlace_4 : decode b_Inodes_extentPlace 4 = .ok (.iconst 4, 1) := by decide +kernel
theorem d_Inodes_extentPlace_5 : decode b_Inodes_extentPlace 5 = .ok (.iadd, 1) := by decide +kernel
theorem d_Inodes_extentPlace_6 : decode b_Inodes_extentPlace 6 = .ok (.iconst 3, 1) := by decide +kernel
theorem d_Inodes_extentPlace_7 : decode b_Inodes_extentPlace 7 = .ok (.iload_n 1, 1) := by decide +kernel
theorem d_Inodes_extentPlace_8 : decode b_Inodes_extentPlace 8 = .ok (.imul, 1) := by decide +kernel
theorem d_Inodes_extentPlace_9 : decode b_Inodes_extentPlace 9 = .ok (.iadd, 1) := by decide +kernel
theorem d_Inodes_extentPlace_10 : decode b_Inodes_extentPlace 10 = .ok (.ireturn, 1) := by decide +kernel
set_option maxHeartbeats 4000000 in
set_option maxRecDepth 100000 in
theorem c_Inodes_extentPlace (l : Launch) (i j : Nat) : RoI l y_Inodes_extentPlace w_Inodes_extentPlace ({ frames := 1, cells := 0, slots := 0, locals := 20 }) [.int (nI i), .int (nI j)] (fun _ => True) (nI (1600 + 32 * i + 4 + 3 * j)) := by
  refine Met.ofW (cc := b_Inodes_extentPlace) (maxL := 2) (ret := (some .int)) (by decide) rfl ?_
  intro p e s m args below meth c s₁ B hml hv
  obtain ⟨rfl, -⟩ := hv
  have hx := B.exec
  have hb := B.bytes
  have hr := B.returns
  have hts := atoms_spec (ws := w_Inodes_extentPlace) B.pre
  have hTB : ∀ w ∈ lw_tb, w.before _ s = true := fun w h => hts w (List.mem_cons_of_mem _ h)
  have hown : s.vm.findClass R_Inodes = some m.cls := findClass_of_methodNamed B.named
  have hlocks := B.notSynchronized
  have hS : va_S (fun _ => False) s.heap s.heap [] := va_S.rf
  have hP : va_P (fun _ => 0, fun _ _ => 0) cl5 [] s.heap := fun k q h => by simp at h
  have hl := lv_entry ([.int (nI i), .int (nI j)]) (n := 2) (Nat.le_of_ble_eq_true rfl)
  rw [lg_entry_eq]
  generalize (lg_sl ([.int (nI i), .int (nI j)]) ++ List.replicate (2 - (lg_sl ([.int (nI i), .int (nI j)])).length) Slot.unset).toArray = ls at hl ⊢
  have hl : lv_has ls 2 [(0, .int (nI i)), (1, .int (nI j))] := hl
  refine lv_iload_n hx hb d_Inodes_extentPlace_0 rfl (lv_at hl 0 rfl) ?_
  refine gz_roS (As := [.int (nI i)]) (rest := []) ⟨hx, hb, hml, hown, hTB⟩ (c_Inodes_inodePlace l i) (cwS 1 hTB (gd_S k_147 k_148 k_54 k_149) rfl rfl rfl (by decide +kernel) ⟨Nat.le_of_ble_eq_true rfl, Nat.le_of_ble_eq_true rfl⟩) hP rfl hl.1 rfl (Nat.le_of_ble_eq_true rfl) d_Inodes_extentPlace_1 ⟨Nat.zero_le _, Nat.zero_le _⟩ hS (fun H locs hP hS => ?_)
  refine lv_iconst (v := nI 4) hx hb d_Inodes_extentPlace_4 (by decide +kernel) ?_
  refine gz_iadd hx hb d_Inodes_extentPlace_5 ?_
  refine lv_iconst (v := nI 3) hx hb d_Inodes_extentPlace_6 (by decide +kernel) ?_
  refine lv_iload_n hx hb d_Inodes_extentPlace_7 rfl (lv_at hl 1 rfl) ?_
  refine gz_imul hx hb d_Inodes_extentPlace_8 ?_
  refine gz_iadd hx hb d_Inodes_extentPlace_9 ?_
  exact W.iret (v := nI (((1600 + 32 * i) + 4) + (3 * j))) hx hb hr (fun tt9 ht9 hW9 => ⟨⟨_, (), rfl, rfl, trivial⟩, hS.F ht9⟩) hS.2.2 d_Inodes_extentPlace_10
theorem d_Inodes_blocksFor_0 : decode b_Inodes_blocksFor 0 = .ok (.iload_n 0, 1) := by decide +kernel
theorem d_Inodes_blocksFor_1 : decode b_Inodes_blocksFor 1 = .ok (.bipush 64, 2) := by decide +kernel
theorem d_Inodes_blocksFor_3 : decode b_Inodes_blocksFor 3 = .ok (.iadd, 1) := by decide +kernel
theorem d_Inodes_blocksFor_4 : decode b_Inodes_blocksFor 4 = .ok (.iconst 1, 1) := by decide +kernel
theorem d_Inodes_blocksFor_5 : decode b_Inodes_blocksFor 5 = .ok (.isub, 1) := by decide +kernel
theorem d_Inodes_blocksFor_6 : decode b_Inodes_blocksFor 6 = .ok (.bipush 64, 2) := by decide +kernel
theorem d_Inodes_blocksFor_8 : decode b_Inodes_blocksFor 8 = .ok (.idiv, 1) := by decide +kernel
theorem d_Inodes_blocksFor_9 : decode b_Inodes_blocksFor 9 = .ok (.ireturn, 1) := by decide +kernel
set_option maxHeartbeats 4000000 in
set_option maxRecDepth 100000 in
theorem c_Inodes_blocksFor (l : Launch) (n : Nat) (hn : n < 2000000000) : RoI l y_Inodes_blocksFor w_Inodes_blocksFor ({ frames := 0, cells := 0, slots := 0, locals := 0 }) [.int (nI n)] (fun _ => True) (nI (blk n)) := by
  refine Met.ofW (cc := b_Inodes_blocksFor) (maxL := 1) (ret := (some .int)) (by decide) rfl ?_
  intro p e s m args below meth c s₁ B hml hv
  obtain ⟨rfl, -⟩ := hv
  have hx := B.exec
  have hb := B.bytes
  have hr := B.returns
  have hts := atoms_spec (ws := w_Inodes_blocksFor) B.pre
  have hTB : ∀ w ∈ lw_tb, w.before _ s = true := fun w h => hts w (List.mem_cons_of_mem _ h)
  have hown : s.vm.findClass R_Inodes = some m.cls := findClass_of_methodNamed B.named
  have hlocks := B.notSynchronized
  have hS : va_S (fun _ => False) s.heap s.heap [] := va_S.rf
  have hP : va_P (fun _ => 0, fun _ _ => 0) cl5 [] s.heap := fun k q h => by simp at h
  have hl := lv_entry ([.int (nI n)]) (n := 1) (Nat.le_of_ble_eq_true rfl)
  rw [lg_entry_eq]
  generalize (lg_sl ([.int (nI n)]) ++ List.replicate (1 - (lg_sl ([.int (nI n)])).length) Slot.unset).toArray = ls at hl ⊢
  have hl : lv_has ls 1 [(0, .int (nI n))] := hl
  refine lv_iload_n hx hb d_Inodes_blocksFor_0 rfl (lv_at hl 0 rfl) ?_
  refine lv_bipush (v := nI 64) hx hb d_Inodes_blocksFor_1 (by decide +kernel) ?_
  refine gz_iadd hx hb d_Inodes_blocksFor_3 ?_
  refine lv_iconst (v := nI 1) hx hb d_Inodes_blocksFor_4 (by decide +kernel) ?_
  refine gz_isub hx hb d_Inodes_blocksFor_5 (by omega) ?_
  refine lv_bipush (v := nI 64) hx hb d_Inodes_blocksFor_6 (by decide +kernel) ?_
  refine gz_idiv hx hb d_Inodes_blocksFor_8 (by omega) (by decide) (by decide) ?_
  exact W.iret (v := nI (((n + 64) - 1) / 64)) hx hb hr (fun tt9 ht9 hW9 => ⟨⟨_, (), rfl, rfl, trivial⟩, hS.F ht9⟩) hS.2.2 d_Inodes_blocksFor_9
theorem d_Inodes_kind_0 : decode b_Inodes_kind 0 = .ok (.aload_n 0, 1) := by decide +kernel
theorem d_Inodes_kind_1 : decode b_Inodes_kind 1 = .ok (.getfield 9, 3) := by decide +kernel
theorem d_Inodes_kind_4 : decode b_Inodes_kind 4 = .ok (.iload_n 1, 1) := by decide +kernel
theorem d_Inodes_kind_5 : decode b_Inodes_kind 5 = .ok (.invokestatic 15, 3) := by decide +kernel
theorem d_Inodes_kind_8 : decode b_Inodes_kind 8 = .ok (.invokevirtual 19, 3) := by decide +kernel
theorem d_Inodes_kind_11 : decode b_Inodes_kind 11 = .ok (.ireturn, 1) := by decide +kernel
set_option maxHeartbeats 4000000 in
set_option maxRecDepth 100000 in
theorem c_Inodes_kind (l : Launch) (D : va_G) (g : Nat → Nat) (k : Nat → ClassId) (L : Nat) (hL0 : 96 ≤ L) (hL : L ≤ 768) (u : DSt) (i : Nat) : RoI l y_Inodes_kind w_Inodes_kind ({ frames := 1, cells := 0, slots := 0, locals := 21 }) [.ref (g 6), .int (nI i)] (RoP D cl5 (tyC k) (wI g k L u)) (nI (iK L (dNow u) i)) := by
  refine Met.ofW (cc := b_Inodes_kind) (maxL := 2) (ret := (some .int)) (by decide) rfl ?_
  intro p e s m args below meth c s₁ B hml hv
  obtain ⟨rfl, hP, hK⟩ := hv
  have hx := B.exec
  have hb := B.bytes
  have hr := B.returns
  have hts := atoms_spec (ws := w_Inodes_kind) B.pre
  have hTB : ∀ w ∈ lw_tb, w.before _ s = true := fun w h => hts w (List.mem_cons_of_mem _ h)
  have hown : s.vm.findClass R_Inodes = some m.cls := findClass_of_methodNamed B.named
  have hlocks := B.notSynchronized
  have hS : va_S (fun _ => False) s.heap s.heap [] := va_S.rf
  have hl := lv_entry ([.ref (g 6), .int (nI i)]) (n := 2) (Nat.le_of_ble_eq_true rfl)
  rw [lg_entry_eq]
  generalize (lg_sl ([.ref (g 6), .int (nI i)]) ++ List.replicate (2 - (lg_sl ([.ref (g 6), .int (nI i)])).length) Slot.unset).toArray = ls at hl ⊢
  have hl : lv_has ls 2 [(0, .ref (g 6)), (1, .int (nI i))] := hl
  refine lv_aload_n hx hb d_Inodes_kind_0 rfl (lv_at hl 0 rfl) ?_
  refine va_get (D := D) (ci := 2) (v := .ref (g 0)) (C := R_Inodes) (T := T_Inodes) (N := 1) hx hb hTB in_Inodes hown hK hP 0 rfl rfl 0 (by decide) (hTB _ k_122) (fun _ h9 => h9) rfl d_Inodes_kind_1 ?_
  refine lv_iload_n hx hb d_Inodes_kind_4 rfl (lv_at hl 1 rfl) ?_
  refine gz_roS (As := [.int (nI i)]) (rest := [.ref (g 0)]) ⟨hx, hb, hml, hown, hTB⟩ (c_Inodes_inodePlace l i) (cwS 1 hTB (gd_S k_147 k_148 k_54 k_149) rfl rfl rfl (by decide +kernel) ⟨Nat.le_of_ble_eq_true rfl, Nat.le_of_ble_eq_true rfl⟩) hP rfl hl.1 rfl (Nat.le_of_ble_eq_true rfl) d_Inodes_kind_5 ⟨Nat.zero_le _, Nat.zero_le _⟩ hS (fun H locs hP hS => ?_)
  refine gz_roV (As := [.int (nI (1600 + 32 * i))]) (rest := []) (wc := (wD g k L u)) ⟨hx, hb, hml, hown, hTB⟩ (c_Disk_byteAt l D g k L hL0 hL u (nI (1600 + 32 * i))) (cwV 1 hTB (gd_V k_344 k_345 k_346 k_52 k_347) rfl rfl rfl (by decide +kernel) ⟨Nat.le_of_ble_eq_true rfl, Nat.le_of_ble_eq_true rfl⟩) hK hP [1, 2, 3, 4, 5, 6] rfl 1 rfl rfl rfl hl.1 rfl (Nat.le_of_ble_eq_true rfl) d_Inodes_kind_8 ⟨Nat.zero_le _, Nat.zero_le _⟩ hS (fun H locs hP hS => ?_)
  have := bN_lt L (dNow u) (nI (1600 + 32 * i))
  exact W.iret (v := nI (bN L (dNow u) (nI (1600 + 32 * i)))) hx hb hr (fun tt9 ht9 hW9 => ⟨⟨_, (), rfl, rfl, trivial⟩, hS.F ht9⟩) hS.2.2 d_Inodes_kind_11
theorem d_Inodes_size_0 : decode b_Inodes_size 0 = .ok (.aload_n 0, 1) := by decide +kernel
theorem d_Inodes_size_1 : decode b_Inodes_size 1 = .ok (.getfield 9, 3) := by decide +kernel
theorem d_Inodes_size_4 : decode b_Inodes_size 4 = .ok (.iload_n 1, 1) := by decide +kernel
theorem d_Inodes_size_5 : decode b_Inodes_size 5 = .ok (.invokestatic 15, 3) := by decide +kernel
theorem d_Inodes_size_8 : decode b_Inodes_size 8 = .ok (.iconst 2, 1) := by decide +kernel
theorem d_Inodes_size_9 : decode b_Inodes_size 9 = .ok (.iadd, 1) := by decide +kernel
theorem d_Inodes_size_10 : decode b_Inodes_size 10 = .ok (.invokevirtual 24, 3) := by decide +kernel
theorem d_Inodes_size_13 : decode b_Inodes_size 13 = .ok (.ireturn, 1) := by decide +kernel
set_option maxHeartbeats 4000000 in
set_option maxRecDepth 100000 in
theorem c_Inodes_size (l : Launch) (D : va_G) (g : Nat → Nat) (k : Nat → ClassId) (L : Nat) (hL0 : 96 ≤ L) (hL : L ≤ 768) (u : DSt) (i : Nat) : RoI l y_Inodes_size w_Inodes_size ({ frames := 2, cells := 0, slots := 0, locals := 42 }) [.ref (g 6), .int (nI i)] (RoP D cl5 (tyC k) (wI g k L u)) (nI (iS L (dNow u) i)) := by
  refine Met.ofW (cc := b_Inodes_size) (maxL := 2) (ret := (some .int)) (by decide) rfl ?_
  intro p e s m args below meth c s₁ B hml hv
  obtain ⟨rfl, hP, hK⟩ := hv
  have hx := B.exec
  have hb := B.bytes
  have hr := B.returns
  have hts := atoms_spec (ws := w_Inodes_size) B.pre
  have hTB : ∀ w ∈ lw_tb, w.before _ s = true := fun w h => hts w (List.mem_cons_of_mem _ h)
  have hown : s.vm.findClass R_Inodes = some m.cls := findClass_of_methodNamed B.named
  have hlocks := B.notSynchronized
  have hS : va_S (fun _ => False) s.heap s.heap [] := va_S.rf
  have hl := lv_entry ([.ref (g 6), .int (nI i)]) (n := 2) (Nat.le_of_ble_eq_true rfl)
  rw [lg_entry_eq]
  generalize (lg_sl ([.ref (g 6), .int (nI i)]) ++ List.replicate (2 - (lg_sl ([.ref (g 6), .int (nI i)])).length) Slot.unset).toArray = ls at hl ⊢
  have hl : lv_has ls 2 [(0, .ref (g 6)), (1, .int (nI i))] := hl
  refine lv_aload_n hx hb d_Inodes_size_0 rfl (lv_at hl 0 rfl) ?_
  refine va_get (D := D) (ci := 2) (v := .ref (g 0)) (C := R_Inodes) (T := T_Inodes) (N := 1) hx hb hTB in_Inodes hown hK hP 0 rfl rfl 0 (by decide) (hTB _ k_122) (fun _ h9 => h9) rfl d_Inodes_size_1 ?_
  refine lv_iload_n hx hb d_Inodes_size_4 rfl (lv_at hl 1 rfl) ?_
  refine gz_roS (As := [.int (nI i)]) (rest := [.ref (g 0)]) ⟨hx, hb, hml, hown, hTB⟩ (c_Inodes_inodePlace l i) (cwS 1 hTB (gd_S k_147 k_148 k_54 k_149) rfl rfl rfl (by decide +kernel) ⟨Nat.le_of_ble_eq_true rfl, Nat.le_of_ble_eq_true rfl⟩) hP rfl hl.1 rfl (Nat.le_of_ble_eq_true rfl) d_Inodes_size_5 ⟨Nat.zero_le _, Nat.zero_le _⟩ hS (fun H locs hP hS => ?_)
  refine lv_iconst (v := nI 2) hx hb d_Inodes_size_8 (by decide +kernel) ?_
  refine gz_iadd hx hb d_Inodes_size_9 ?_
  refine gz_roV (As := [.int (nI ((1600 + 32 * i) + 2))]) (rest := []) (wc := (wD g k L u)) ⟨hx, hb, hml, hown, hTB⟩ (c_Disk_pairAt l D g k L hL0 hL u (nI ((1600 + 32 * i) + 2))) (cwV 1 hTB (gd_V k_356 k_357 k_358 k_52 k_359) rfl rfl rfl (by decide +kernel) ⟨Nat.le_of_ble_eq_true rfl, Nat.le_of_ble_eq_true rfl⟩) hK hP [1, 2, 3, 4, 5, 6] rfl 1 rfl rfl rfl hl.1 rfl (Nat.le_of_ble_eq_true rfl) d_Inodes_size_10 ⟨Nat.zero_le _, Nat.zero_le _⟩ hS (fun H locs hP hS => ?_)
  have := pN_lt L (dNow u) (nI ((1600 + 32 * i) + 2))
  exact W.iret (v := nI (pN L (dNow u) (nI ((1600 + 32 * i) + 2)))) hx hb hr (fun tt9 ht9 hW9 => ⟨⟨_, (), rfl, rfl, trivial⟩, hS.F ht9⟩) hS.2.2 d_Inodes_size_13
theorem d_Inodes_extents_0 : decode b_Inodes_extents 0 = .ok (.aload_n 0, 1) := by decide +kernel
theorem d_Inodes_extents_1 : decode b_Inodes_extents 1 = .ok (.getfield 9, 3) := by decide +kernel
theorem d_Inodes_extents_4 : decode b_Inodes_extents 4 = .ok (.iload_n 1, 1) := by decide +kernel
theorem d_Inodes_extents_5 : decode b_Inodes_extents 5 = .ok (.invokestatic 15, 3) := by decide +kernel
theorem d_Inodes_extents_8 : decode b_Inodes_extents 8 = .ok (.iconst 1, 1) := by decide +kernel
theorem d_Inodes_extents_9 : decode b_Inodes_extents 9 = .ok (.iadd, 1) := by decide +kernel
theorem d_Inodes_extents_10 : decode b_Inodes_extents 10 = .ok (.invokevirtual 19, 3) := by decide +kernel
theorem d_Inodes_extents_13 : decode b_Inodes_extents 13 = .ok (.ireturn, 1) := by decide +kernel
set_option maxHeartbeats 4000000 in
set_option maxRecDepth 100000 in
theorem c_Inodes_extents (l : Launch) (D : va_G) (g : Nat → Nat) (k : Nat → ClassId) (L : Nat) (hL0 : 96 ≤ L) (hL : L ≤ 768) (u : DSt) (i : Nat) : RoI l y_Inodes_extents w_Inodes_extents ({ frames := 1, cells := 0, slots := 0, locals := 21 }) [.ref (g 6), .int (nI i)] (RoP D cl5 (tyC k) (wI g k L u)) (nI (iX L (dNow u) i)) := by
  refine Met.ofW (cc := b_Inodes_extents) (maxL := 2) (ret := (some .int)) (by decide) rfl ?_
  intro p e s m args below meth c s₁ B hml hv
  obtain ⟨rfl, hP, hK⟩ := hv
  have hx := B.exec
  have hb := B.bytes
  have hr := B.returns
  have hts := atoms_spec (ws := w_Inodes_extents) B.pre
  have hTB : ∀ w ∈ lw_tb, w.before _ s = true := fun w h => hts w (List.mem_cons_of_mem _ h)
  have hown : s.vm.findClass R_Inodes = some m.cls := findClass_of_methodNamed B.named
  have hlocks := B.notSynchronized
  have hS : va_S (fun _ => False) s.heap s.heap [] := va_S.rf
  have hl := lv_entry ([.ref (g 6), .int (nI i)]) (n := 2) (Nat.le_of_ble_eq_true rfl)
  rw [lg_entry_eq]
  generalize (lg_sl ([.ref (g 6), .int (nI i)]) ++ List.replicate (2 - (lg_sl ([.ref (g 6), .int (nI i)])).length) Slot.unset).toArray = ls at hl ⊢
  have hl : lv_has ls 2 [(0, .ref (g 6)), (1, .int (nI i))] := hl
  refine lv_aload_n hx hb d_Inodes_extents_0 rfl (lv_at hl 0 rfl) ?_
  refine va_get (D := D) (ci := 2) (v := .ref (g 0)) (C := R_Inodes) (T := T_Inodes) (N := 1) hx hb hTB in_Inodes hown hK hP 0 rfl rfl 0 (by decide) (hTB _ k_122) (fun _ h9 => h9) rfl d_Inodes_extents_1 ?_
  refine lv_iload_n hx hb d_Inodes_extents_4 rfl (lv_at hl 1 rfl) ?_
  refine gz_roS (As := [.int (nI i)]) (rest := [.ref (g 0)]) ⟨hx, hb, hml, hown, hTB⟩ (c_Inodes_inodePlace l i) (cwS 1 hTB (gd_S k_147 k_148 k_54 k_149) rfl rfl rfl (by decide +kernel) ⟨Nat.le_of_ble_eq_true rfl, Nat.le_of_ble_eq_true rfl⟩) hP rfl hl.1 rfl (Nat.le_of_ble_eq_true rfl) d_Inodes_extents_5 ⟨Nat.zero_le _, Nat.zero_le _⟩ hS (fun H locs hP hS => ?_)
  refine lv_iconst (v := nI 1) hx hb d_Inodes_extents_8 (by decide +kernel) ?_
  refine gz_iadd hx hb d_Inodes_extents_9 ?_
  refine gz_roV (As := [.int (nI ((1600 + 32 * i) + 1))]) (rest := []) (wc := (wD g k L u)) ⟨hx, hb, hml, hown, hTB⟩ (c_Disk_byteAt l D g k L hL0 hL u (nI ((1600 + 32 * i) + 1))) (cwV 1 hTB (gd_V k_344 k_345 k_346 k_52 k_347) rfl rfl rfl (by decide +kernel) ⟨Nat.le_of_ble_eq_true rfl, Nat.le_of_ble_eq_true rfl⟩) hK hP [1, 2, 3, 4, 5, 6] rfl 1 rfl rfl rfl hl.1 rfl (Nat.le_of_ble_eq_true rfl) d_Inodes_extents_10 ⟨Nat.zero_le _, Nat.zero_le _⟩ hS (fun H locs hP hS => ?_)
  have := bN_lt L (dNow u) (nI ((1600 + 32 * i) + 1))
  exact W.iret (v := nI (bN L (dNow u) (nI ((1600 + 32 * i) + 1)))) hx hb hr (fun tt9 ht9 hW9 => ⟨⟨_, (), rfl, rfl, trivial⟩, hS.F ht9⟩) hS.2.2 d_Inodes_extents_13
theorem d_Inodes_extentFirst_0 : decode b_Inodes_extentFirst 0 = .ok (.aload_n 0, 1) := by decide +kernel
theorem d_Inodes_extentFirst_1 : decode b_Inodes_extentFirst 1 = .ok (.getfield 9, 3) := by decide +kernel
theorem d_Inodes_extentFirst_4 : decode b_Inodes_extentFirst 4 = .ok (.iload_n 1, 1) := by decide +kernel
theorem d_Inodes_extentFirst_5 : decode b_Inodes_extentFirst 5 = .ok (.iload_n 2, 1) := by decide +kernel
theorem d_Inodes_extentFirst_6 : decode b_Inodes_extentFirst 6 = .ok (.invokestatic 27, 3) := by decide +kernel
theorem d_Inodes_extentFirst_9 : decode b_Inodes_extentFirst 9 = .ok (.invokevirtual 24, 3) := by decide +kernel
theorem d_Inodes_extentFirst_12 : decode b_Inodes_extentFirst 12 = .ok (.ireturn, 1) := by decide +kernel
set_option maxHeartbeats 4000000 in
set_option maxRecDepth 100000 in
theorem c_Inodes_extentFirst (l : Launch) (D : va_G) (g : Nat → Nat) (k : Nat → ClassId) (L : Nat) (hL0 : 96 ≤ L) (hL : L ≤ 768) (u : DSt) (i j : Nat) : RoI l y_Inodes_extentFirst w_Inodes_extentFirst ({ frames := 2, cells := 0, slots := 0, locals := 42 }) [.ref (g 6), .int (nI i), .int (nI j)] (RoP D cl5 (tyC k) (wI g k L u)) (nI (xF L (dNow u) i j)) := by
  refine Met.ofW (cc := b_Inodes_extentFirst) (maxL := 3) (ret := (some .int)) (by decide) rfl ?_
  intro p e s m args below meth c s₁ B hml hv
  obtain ⟨rfl, hP, hK⟩ := hv
  have hx := B.exec
  have hb := B.bytes
  have hr := B.returns
  have hts := atoms_spec (ws := w_Inodes_extentFirst) B.pre
  have hTB : ∀ w ∈ lw_tb, w.before _ s = true := fun w h => hts w (List.mem_cons_of_mem _ h)
  have hown : s.vm.findClass R_Inodes = some m.cls := findClass_of_methodNamed B.named
  have hlocks := B.notSynchronized
  have hS : va_S (fun _ => False) s.heap s.heap [] := va_S.rf
  have hl := lv_entry ([.ref (g 6), .int (nI i), .int (nI j)]) (n := 3) (Nat.le_of_ble_eq_true rfl)
  rw [lg_entry_eq]
  generalize (lg_sl ([.ref (g 6), .int (nI i), .int (nI j)]) ++ List.replicate (3 - (lg_sl ([.ref (g 6), .int (nI i), .int (nI j)])).length) Slot.unset).toArray = ls at hl ⊢
  have hl : lv_has ls 3 [(0, .ref (g 6)), (1, .int (nI i)), (2, .int (nI j))] := hl
  refine lv_aload_n hx hb d_Inodes_extentFirst_0 rfl (lv_at hl 0 rfl) ?_
  refine va_get (D := D) (ci := 2) (v := .ref (g 0)) (C := R_Inodes) (T := T_Inodes) (N := 1) hx hb hTB in_Inodes hown hK hP 0 rfl rfl 0 (by decide) (hTB _ k_122) (fun _ h9 => h9) rfl d_Inodes_extentFirst_1 ?_
  refine lv_iload_n hx hb d_Inodes_extentFirst_4 rfl (lv_at hl 1 rfl) ?_
  refine lv_iload_n hx hb d_Inodes_extentFirst_5 rfl (lv_at hl 2 rfl) ?_
  refine gz_roS (As := [.int (nI i), .int (nI j)]) (rest := [.ref (g 0)]) ⟨hx, hb, hml, hown, hTB⟩ (c_Inodes_extentPlace l i j) (cwS 2 hTB (gd_S k_373 k_374 k_54 k_375) rfl rfl rfl (by decide +kernel) ⟨Nat.le_of_ble_eq_true rfl, Nat.le_of_ble_eq_true rfl⟩) hP rfl hl.1 rfl (Nat.le_of_ble_eq_true rfl) d_Inodes_extentFirst_6 ⟨Nat.zero_le _, Nat.zero_le _⟩ hS (fun H locs hP hS => ?_)
  refine gz_roV (As := [.int (nI (1600 + 32 * i + 4 + 3 * j))]) (rest := []) (wc := (wD g k L u)) ⟨hx, hb, hml, hown, hTB⟩ (c_Disk_pairAt l D g k L hL0 hL u (nI (1600 + 32 * i + 4 + 3 * j))) (cwV 1 hTB (gd_V k_356 k_357 k_358 k_52 k_359) rfl rfl rfl (by decide +kernel) ⟨Nat.le_of_ble_eq_true rfl, Nat.le_of_ble_eq_true rfl⟩) hK hP [1, 2, 3, 4, 5, 6] rfl 1 rfl rfl rfl hl.1 rfl (Nat.le_of_ble_eq_true rfl) d_Inodes_extentFirst_9 ⟨Nat.zero_le _, Nat.zero_le _⟩ hS (fun H locs hP hS => ?_)
  have := pN_lt L (dNow u) (nI (1600 + 32 * i + 4 + 3 * j))
  exact W.iret (v := nI (pN L (dNow u) (nI (1600 + 32 * i + 4 + 3 * j)))) hx hb hr (fun tt9 ht9 hW9 => ⟨⟨_, (), rfl, rfl, trivial⟩, hS.F ht9⟩) hS.2.2 d_Inodes_extentFirst_12
theorem d_Inodes_extentLength_0 : decode b_Inodes_extentLength 0 = .ok (.aload_n 0, 1) := by decide +kernel
theorem d_Inodes_extentLength_1 : decode b_Inodes_extentLength 1 = .ok (.getfield 9, 3) := by decide +kernel
theorem d_Inodes_extentLength_4 : decode b_Inodes_extentLength 4 = .ok (.iload_n 1, 1) := by decide +kernel
theorem d_Inodes_extentLength_5 : decode b_Inodes_extentLength 5 = .ok (.iload_n 2, 1) := by decide +kernel
theorem d_Inodes_extentLength_6 : decode b_Inodes_extentLength 6 = .ok (.invokestatic 27, 3) := by decide +kernel
theorem d_Inodes_extentLength_9 : decode b_Inodes_extentLength 9 = .ok (.iconst 2, 1) := by decide +kernel
theorem d_Inodes_extentLength_10 : decode b_Inodes_extentLength 10 = .ok (.iadd, 1) := by decide +kernel
theorem d_Inodes_extentLength_11 : decode b_Inodes_extentLength 11 = .ok (.invokevirtual 19, 3) := by decide +kernel
theorem d_Inodes_extentLength_14 : decode b_Inodes_extentLength 14 = .ok (.ireturn, 1) := by decide +kernel
set_option maxHeartbeats 4000000 in
set_option maxRecDepth 100000 in
theorem c_Inodes_extentLength (l : Launch) (D : va_G) (g : Nat → Nat) (k : Nat → ClassId) (L : Nat) (hL0 : 96 ≤ L) (hL : L ≤ 768) (u : DSt) (i j : Nat) : RoI l y_Inodes_extentLength w_Inodes_extentLength ({ frames := 2, cells := 0, slots := 0, locals := 41 }) [.ref (g 6), .int (nI i), .int (nI j)] (RoP D cl5 (tyC k) (wI g k L u)) (nI (xL L (dNow u) i j)) := by
  refine Met.ofW (cc := b_Inodes_extentLength) (maxL := 3) (ret := (some .int)) (by decide) rfl ?_
  intro p e s m args below meth c s₁ B hml hv
  obtain ⟨rfl, hP, hK⟩ := hv
  have hx := B.exec
  have hb := B.bytes
  have hr := B.returns
  have hts := atoms_spec (ws := w_Inodes_extentLength) B.pre
  have hTB : ∀ w ∈ lw_tb, w.before _ s = true := fun w h => hts w (List.mem_cons_of_mem _ h)
  have hown : s.vm.findClass R_Inodes = some m.cls := findClass_of_methodNamed B.named
  have hlocks := B.notSynchronized
  have hS : va_S (fun _ => False) s.heap s.heap [] := va_S.rf
  have hl := lv_entry ([.ref (g 6), .int (nI i), .int (nI j)]) (n := 3) (Nat.le_of_ble_eq_true rfl)
  rw [lg_entry_eq]
  generalize (lg_sl ([.ref (g 6), .int (nI i), .int (nI j)]) ++ List.replicate (3 - (lg_sl ([.ref (g 6), .int (nI i), .int (nI j)])).length) Slot.unset).toArray = ls at hl ⊢
  have hl : lv_has ls 3 [(0, .ref (g 6)), (1, .int (nI i)), (2, .int (nI j))] := hl
  refine lv_aload_n hx hb d_Inodes_extentLength_0 rfl (lv_at hl 0 rfl) ?_
  refine va_get (D := D) (ci := 2) (v := .ref (g 0)) (C := R_Inodes) (T := T_Inodes) (N := 1) hx hb hTB in_Inodes hown hK hP 0 rfl rfl 0 (by decide) (hTB _ k_122) (fun _ h9 => h9) rfl d_Inodes_extentLength_1 ?_
  refine lv_iload_n hx hb d_Inodes_extentLength_4 rfl (lv_at hl 1 rfl) ?_
  refine lv_iload_n hx hb d_Inodes_extentLength_5 rfl (lv_at hl 2 rfl) ?_
  refine gz_roS (As := [.int (nI i), .int (nI j)]) (rest := [.ref (g 0)]) ⟨hx, hb, hml, hown, hTB⟩ (c_Inodes_extentPlace l i j) (cwS 2 hTB (gd_S k_373 k_374 k_54 k_375) rfl rfl rfl (by decide +kernel) ⟨Nat.le_of_ble_eq_true rfl, Nat.le_of_ble_eq_true rfl⟩) hP rfl hl.1 rfl (Nat.le_of_ble_eq_true rfl) d_Inodes_extentLength_6 ⟨Nat.zero_le _, Nat.zero_le _⟩ hS (fun H locs hP hS => ?_)
  refine lv_iconst (v := nI 2) hx hb d_Inodes_extentLength_9 (by decide +kernel) ?_
  refine gz_iadd hx hb d_Inodes_extentLength_10 ?_
  refine gz_roV (As := [.int (nI ((1600 + 32 * i + 4 + 3 * j) + 2))]) (rest := []) (wc := (wD g k L u)) ⟨hx, hb, hml, hown, hTB⟩ (c_Disk_byteAt l D g k L hL0 hL u (nI ((1600 + 32 * i + 4 + 3 * j) + 2))) (cwV 1 hTB (gd_V k_344 k_345 k_346 k_52 k_347) rfl rfl rfl (by decide +kernel) ⟨Nat.le_of_ble_eq_true rfl, Nat.le_of_ble_eq_true rfl⟩) hK hP [1, 2, 3, 4, 5, 6] rfl 1 rfl rfl rfl hl.1 rfl (Nat.le_of_ble_eq_true rfl) d_Inodes_extentLength_11 ⟨Nat.zero_le _, Nat.zero_le _⟩ hS (fun H locs hP hS => ?_)
  have := bN_lt L (dNow u) (nI ((1600 + 32 * i + 4 + 3 * j) + 2))
  exact W.iret (v := nI (bN L (dNow u) (nI ((1600 + 32 * i + 4 + 3 * j) + 2)))) hx hb hr (fun tt9 ht9 hW9 => ⟨⟨_, (), rfl, rfl, trivial⟩, hS.F ht9⟩) hS.2.2 d_Inodes_extentLength_14
theorem d_Inodes_leastFree_0 : decode b_Inodes_leastFree 0 = .ok (.iconst 0, 1) := by decide +kernel
theorem d_Inodes_leastFree_1 : decode b_Inodes_leastFree 1 = .ok (.istore_n 1, 1) := by decide +kernel
theorem d_Inodes_leastFree_2 : decode b_Inodes_leastFree 2 = .ok (.iload_n 1, 1) := by decide +kernel
theorem d_Inodes_leastFree_3 : decode b_Inodes_leastFree 3 = .ok (.bipush 64, 2) := by decide +kernel
theorem d_Inodes_leastFree_5 : decode b_Inodes_leastFree 5 = .ok (.if_icmp .ge 19, 3) := by decide +kernel
theorem d_Inodes_leastFree_8 : decode b_Inodes_leastFree 8 = .ok (.aload_n 0, 1) := by decide +kernel
theorem d_Inodes_leastFree_9 : decode b_Inodes_leastFree 9 = .ok (.iload_n 1, 1) := by decide +kernel
theorem d_Inodes_leastFree_10 : decode b_Inodes_leastFree 10 = .ok (.invokevirtual 31, 3) := by decide +kernel
theorem d_Inodes_leastFree_13 : decode b_Inodes_leastFree 13 = .ok (.ifCond .ne 5, 3) := by decide +kernel
theorem d_Inodes_leastFree_16 : decode b_Inodes_leastFree 16 = .ok (.iload_n 1, 1) := by decide +kernel
theorem d_Inodes_leastFree_17 : decode b_Inodes_leastFree 17 = .ok (.ireturn, 1) := by decide +kernel
theorem d_Inodes_leastFree_18 : decode b_Inodes_leastFree 18 = .ok (.iinc 1 1, 3) := by decide +kernel
theorem d_Inodes_leastFree_21 : decode b_Inodes_leastFree 21 = .ok (.goto (-19), 3) := by decide +kernel
theorem d_Inodes_leastFree_24 : decode b_Inodes_leastFree 24 = .ok (.iconst (-1), 1) := by decide +kernel
theorem d_Inodes_leastFree_25 : decode b_Inodes_leastFree 25 = .ok (.ireturn, 1) := by decide +kernel
set_option maxHeartbeats 4000000 in
set_option maxRecDepth 100000 in
theorem c_Inodes_leastFree (l : Launch) (D : va_G) (g : Nat → Nat) (k : Nat → ClassId) (L : Nat) (hL0 : 96 ≤ L) (hL : L ≤ 768) (u : DSt) : RoI l y_Inodes_leastFree w_Inodes_leastFree ({ frames := 2, cells := 0, slots := 0, locals := 42 }) [.ref (g 6)] (RoP D cl5 (tyC k) (wI g k L u)) (ilf L (dNow u)) := by
  refine Met.ofW (cc := b_Inodes_leastFree) (maxL := 2) (ret := (some .int)) (by decide) rfl ?_
  intro p e s m args below meth c s₁ B hml hv
  obtain ⟨rfl, hP, hK⟩ := hv
  have hx := B.exec
  have hb := B.bytes
  have hr := B.returns
  have hts := atoms_spec (ws := w_Inodes_leastFree) B.pre
  have hTB : ∀ w ∈ lw_tb, w.before _ s = true := fun w h => hts w (List.mem_cons_of_mem _ h)
  have hown : s.vm.findClass R_Inodes = some m.cls := findClass_of_methodNamed B.named
  have hlocks := B.notSynchronized
  have hS : va_S (fun _ => False) s.heap s.heap [] := va_S.rf
  have hl := lv_entry ([.ref (g 6)]) (n := 2) (Nat.le_of_ble_eq_true rfl)
  rw [lg_entry_eq]
  generalize (lg_sl ([.ref (g 6)]) ++ List.replicate (2 - (lg_sl ([.ref (g 6)])).length) Slot.unset).toArray = ls at hl ⊢
  have hl : lv_has ls 2 [(0, .ref (g 6))] := hl
  refine lv_iconst (v := nI 0) hx hb d_Inodes_leastFree_0 (by decide +kernel) ?_
  refine lv_istore_n (lv' := [(1, .int (nI 0)), (0, .ref (g 6))]) hx hb d_Inodes_leastFree_1 rfl hl (by decide) rfl (fun ls hl => ?_)
  refine gz_loop 2 (fun (zz : Nat) H locs ls => match zz with | i => va_P D cl5 (wI g k L u) H ∧ va_S (fun _ => False) s.heap H locs ∧ lv_has ls 2 [(0, .ref (g 6)), (1, .int (nI i))] ∧ (i ≤ 64) ∧ (ilG L (dNow u) (64 - i) i = ilf L (dNow u))) (fun (zz : Nat) => match zz with | i => 64 - i) (fun zz H locs ls hI ih2 => ?_) (0) ⟨hP, hS, lv_sub hl [1, 0] rfl, (by omega), rfl⟩
  obtain ⟨i, rfl⟩ : ∃ z, z = zz := ⟨_, rfl⟩
  obtain ⟨hP, hS, hl, hi1, hi2⟩ := hI
  refine lv_iload_n hx hb d_Inodes_leastFree_2 rfl (lv_at hl 1 rfl) ?_
  refine lv_bipush (v := nI 64) hx hb d_Inodes_leastFree_3 (by decide +kernel) ?_
  refine gz_icmp_ge (tgt := 24) hx hb d_Inodes_leastFree_5 (by decide) (by omega) (by omega) (fun h5 => ?_) (fun h5 => ?_)
  · refine lv_iconst (v := (-1)) hx hb d_Inodes_leastFree_24 (by decide +kernel) ?_
    exact W.iret (v := (-1)) hx hb hr (fun tt9 ht9 hW9 => ⟨⟨_, (), rfl, (by rw [← hi2, show 64 - i = 0 by omega]; rfl), trivial⟩, hS.F ht9⟩) hS.2.2 d_Inodes_leastFree_25
  · refine lv_aload_n hx hb d_Inodes_leastFree_8 rfl (lv_at hl 0 rfl) ?_
    refine lv_iload_n hx hb d_Inodes_leastFree_9 rfl (lv_at hl 1 rfl) ?_
    refine gz_roV (As := [.int (nI i)]) (rest := []) (wc := (wI g k L u)) ⟨hx, hb, hml, hown, hTB⟩ (c_Inodes_kind l D g k L hL0 hL u i) (cwV 1 hTB (gd_V k_385 k_341 k_342 k_54 k_343) rfl rfl rfl (by decide +kernel) ⟨Nat.le_of_ble_eq_true rfl, Nat.le_of_ble_eq_true rfl⟩) hK hP [0, 1, 2, 3, 4, 5, 6] rfl 0 rfl rfl rfl hl.1 rfl (Nat.le_of_ble_eq_true rfl) d_Inodes_leastFree_10 ⟨Nat.zero_le _, Nat.zero_le _⟩ hS (fun H locs hP hS => ?_)
    have := iK_lt L (dNow u) i
    refine gz_if_ne (tgt := 18) hx hb d_Inodes_leastFree_13 (by decide) (by omega) (fun h13 => ?_) (fun h13 => ?_)
    · refine lv_iinc (v := nI (i + 1)) (lv' := [(1, .int (nI (i + 1))), (0, .ref (g 6))]) hx hb d_Inodes_leastFree_18 hl (k := 1) rfl (nI_add i 1) (by decide) rfl (fun ls hl => ?_)
      refine lv_goto (tgt := 2) hx hb d_Inodes_leastFree_21 (by decide) ?_
      exact ih2 (i + 1) _ _ _ (by first | omega | (dsimp only; omega)) ⟨hP, hS, lv_sub hl [1, 0] rfl, (by omega), (by rw [← hi2, show 64 - i = (64 - (i + 1)) + 1 by omega, ilG, if_neg h13])⟩
    · refine lv_iload_n hx hb d_Inodes_leastFree_16 rfl (lv_at hl 1 rfl) ?_
      exact W.iret (v := nI i) hx hb hr (fun tt9 ht9 hW9 => ⟨⟨_, (), rfl, (by rw [← hi2, show 64 - i = (64 - (i + 1)) + 1 by omega, ilG, if_pos h13]), trivial⟩, hS.F ht9⟩) hS.2.2 d_Inodes_leastFree_17
theorem d_Inodes_ofKind_0 : decode b_Inodes_ofKind 0 = .ok (.iconst 0, 1) := by decide +kernel
theorem d_Inodes_ofKind_1 : decode b_Inodes_ofKind 1 = .ok (.istore_n 2, 1) := by decide +kernel
theorem d_Inodes_ofKind_2 : decode b_Inodes_ofKind 2 = .ok (.iconst 0, 1) := by decide +kernel
theorem d_Inodes_ofKind_3 : decode b_Inodes_ofKind 3 = .ok (.istore_n 3, 1) := by decide +kernel
theorem d_Inodes_ofKind_4 : decode b_Inodes_ofKind 4 = .ok (.iload_n 3, 1) := by decide +kernel
theorem d_Inodes_ofKind_5 : decode b_Inodes_ofKind 5 = .ok (.bipush 64, 2) := by decide +kernel
theorem d_Inodes_ofKind_7 : decode b_Inodes_ofKind 7 = .ok (.if_icmp .ge 21, 3) := by decide +kernel
theorem d_Inodes_ofKind_10 : decode b_Inodes_ofKind 10 = .ok (.aload_n 0, 1) := by decide +kernel
theorem d_Inodes_ofKind_11 : decode b_Inodes_ofKind 11 = .ok (.iload_n 3, 1) := by decide +kernel
theorem d_Inodes_ofKind_12 : decode b_Inodes_ofKind 12 = .ok (.invokevirtual 31, 3) := by decide +kernel
theorem d_Inodes_ofKind_15 : decode b_Inodes_ofKind 15 = .ok (.iload_n 1, 1) := by decide +kernel
theorem d_Inodes_ofKind_16 : decode b_Inodes_ofKind 16 = .ok (.if_icmp .ne 6, 3) := by decide +kernel
theorem d_Inodes_ofKind_19 : decode b_Inodes_ofKind 19 = .ok (.iinc 2 1, 3) := by decide +kernel
theorem d_Inodes_ofKind_22 : decode b_Inodes_ofKind 22 = .ok (.iinc 3 1, 3) := by decide +kernel
theorem d_Inodes_ofKind_25 : decode b_Inodes_ofKind 25 = .ok (.goto (-21), 3) := by decide +kernel
theorem d_Inodes_ofKind_28 : decode b_Inodes_ofKind 28 = .ok (.iload_n 2, 1) := by decide +kernel
theorem d_Inodes_ofKind_29 : decode b_Inodes_ofKind 29 = .ok (.ireturn, 1) := by decide +kernel
set_option maxHeartbeats 4000000 in
set_option maxRecDepth 100000 in
theorem c_Inodes_ofKind (l : Launch) (D : va_G) (g : Nat → Nat) (k : Nat → ClassId) (L : Nat) (hL0 : 96 ≤ L) (hL : L ≤ 768) (u : DSt) (c0 : Nat) (hc0 : c0 < 256) : RoI l y_Inodes_ofKind w_Inodes_ofKind ({ frames := 2, cells := 0, slots := 0, locals := 42 }) [.ref (g 6), .int (nI c0)] (RoP D cl5 (tyC k) (wI g k L u)) (nI (iok L (dNow u) c0)) := by
  refine Met.ofW (cc := b_Inodes_ofKind) (maxL := 4) (ret := (some .int)) (by decide) rfl ?_
  intro p e s m args below meth c s₁ B hml hv
  obtain ⟨rfl, hP, hK⟩ := hv
  have hx := B.exec
  have hb := B.bytes
  have hr := B.returns
  have hts := atoms_spec (ws := w_Inodes_ofKind) B.pre
  have hTB : ∀ w ∈ lw_tb, w.before _ s = true := fun w h => hts w (List.mem_cons_of_mem _ h)
  have hown : s.vm.findClass R_Inodes = some m.cls := findClass_of_methodNamed B.named
  have hlocks := B.notSynchronized
  have hS : va_S (fun _ => False) s.heap s.heap [] := va_S.rf
  have hl := lv_entry ([.ref (g 6), .int (nI c0)]) (n := 4) (Nat.le_of_ble_eq_true rfl)
  rw [lg_entry_eq]
  generalize (lg_sl ([.ref (g 6), .int (nI c0)]) ++ List.replicate (4 - (lg_sl ([.ref (g 6), .int (nI c0)])).length) Slot.unset).toArray = ls at hl ⊢
  have hl : lv_has ls 4 [(0, .ref (g 6)), (1, .int (nI c0))] := hl
  refine lv_iconst (v := nI 0) hx hb d_Inodes_ofKind_0 (by decide +kernel) ?_
  refine lv_istore_n (lv' := [(2, .int (nI 0)), (0, .ref (g 6)), (1, .int (nI c0))]) hx hb d_Inodes_ofKind_1 rfl hl (by decide) rfl (fun ls hl => ?_)
  refine lv_iconst (v := nI 0) hx hb d_Inodes_ofKind_2 (by decide +kernel) ?_
  refine lv_istore_n (lv' := [(3, .int (nI 0)), (2, .int (nI 0)), (0, .ref (g 6)), (1, .int (nI c0))]) hx hb d_Inodes_ofKind_3 rfl hl (by decide) rfl (fun ls hl => ?_)
  refine gz_loop 4 (fun (zz : (Nat × Nat)) H locs ls => match zz with | (n, i) => va_P D cl5 (wI g k L u) H ∧ va_S (fun _ => False) s.heap H locs ∧ lv_has ls 4 [(0, .ref (g 6)), (1, .int (nI c0)), (2, .int (nI n)), (3, .int (nI i))] ∧ (i ≤ 64) ∧ (n + ikG L (dNow u) c0 (64 - i) i = iok L (dNow u) c0) ∧ (n ≤ i)) (fun (zz : (Nat × Nat)) => match zz with | (n, i) => 64 - i) (fun zz H locs ls hI ih4 => ?_) (0, 0) ⟨hP, hS, lv_sub hl [2, 3, 1, 0] rfl, (by omega), (Nat.zero_add _), (by omega)⟩
  obtain ⟨n, i⟩ := zz
  obtain ⟨hP, hS, hl, hi1, hi2, hi3⟩ := hI
  refine lv_iload_n hx hb d_Inodes_ofKind_4 rfl (lv_at hl 3 rfl) ?_
  refine lv_bipush (v := nI 64) hx hb d_Inodes_ofKind_5 (by decide +kernel) ?_
  refine gz_icmp_ge (tgt := 28) hx hb d_Inodes_ofKind_7 (by decide) (by omega) (by omega) (fun h7 => ?_) (fun h7 => ?_)
  · refine lv_iload_n hx hb d_Inodes_ofKind_28 rfl (lv_at hl 2 rfl) ?_
    exact W.iret (v := nI n) hx hb hr (fun tt9 ht9 hW9 => ⟨⟨_, (), rfl, (by rw [← hi2, show 64 - i = 0 by omega]; rfl), trivial⟩, hS.F ht9⟩) hS.2.2 d_Inodes_ofKind_29
  · refine lv_aload_n hx hb d_Inodes_ofKind_10 rfl (lv_at hl 0 rfl) ?_
    refine lv_iload_n hx hb d_Inodes_ofKind_11 rfl (lv_at hl 3 rfl) ?_
    refine gz_roV (As := [.int (nI i)]) (rest := []) (wc := (wI g k L u)) ⟨hx, hb, hml, hown, hTB⟩ (c_Inodes_kind l D g k L hL0 hL u i) (cwV 1 hTB (gd_V k_385 k_341 k_342 k_54 k_343) rfl rfl rfl (by decide +kernel) ⟨Nat.le_of_ble_eq_true rfl, Nat.le_of_ble_eq_true rfl⟩) hK hP [0, 1, 2, 3, 4, 5, 6] rfl 0 rfl rfl rfl hl.1 rfl (Nat.le_of_ble_eq_true rfl) d_Inodes_ofKind_12 ⟨Nat.zero_le _, Nat.zero_le _⟩ hS (fun H locs hP hS => ?_)
    have := iK_lt L (dNow u) i
    refine lv_iload_n hx hb d_Inodes_ofKind_15 rfl (lv_at hl 1 rfl) ?_
    refine gz_icmp_ne (tgt := 22) hx hb d_Inodes_ofKind_16 (by decide) (by omega) (by omega) (fun h16 => ?_) (fun h16 => ?_)
    · refine lv_iinc (v := nI (i + 1)) (lv' := [(3, .int (nI (i + 1))), (0, .ref (g 6)), (1, .int (nI c0)), (2, .int (nI n))]) hx hb d_Inodes_ofKind_22 hl (k := 3) rfl (nI_add i 1) (by decide) rfl (fun ls hl => ?_)
      refine lv_goto (tgt := 4) hx hb d_Inodes_ofKind_25 (by decide) ?_
      exact ih4 (n, i + 1) _ _ _ (by first | omega | (dsimp only; omega)) ⟨hP, hS, lv_sub hl [1, 2, 3, 0] rfl, (by omega), (by rw [← hi2, show 64 - i = (64 - (i + 1)) + 1 by omega, ikG]; first | (rw [if_pos h16]; omega) | (rw [if_neg h16]; omega)), (by omega)⟩
    · refine lv_iinc (v := nI (n + 1)) (lv' := [(2, .int (nI (n + 1))), (0, .ref (g 6)), (1, .int (nI c0)), (3, .int (nI i))]) hx hb d_Inodes_ofKind_19 hl (k := 2) rfl (nI_add n 1) (by decide) rfl (fun ls hl => ?_)
      refine lv_iinc (v := nI (i + 1)) (lv' := [(3, .int (nI (i + 1))), (2, .int (nI (n + 1))), (0, .ref (g 6)), (1, .int (nI c0))]) hx hb d_Inodes_ofKind_22 hl (k := 3) rfl (nI_add i 1) (by decide) rfl (fun ls hl => ?_)
      refine lv_goto (tgt := 4) hx hb d_Inodes_ofKind_25 (by decide) ?_
      exact ih4 (n + 1, i + 1) _ _ _ (by first | omega | (dsimp only; omega)) ⟨hP, hS, lv_sub hl [2, 3, 1, 0] rfl, (by omega), (by rw [← hi2, show 64 - i = (64 - (i + 1)) + 1 by omega, ikG]; first | (rw [if_pos h16]; omega) | (rw [if_neg h16]; omega)), (by omega)⟩
theorem d_Inodes_placeOf_0 : decode b_Inodes_placeOf 0 = .ok (.iload_n 2, 1) := by decide +kernel
theorem d_Inodes_placeOf_1 : decode b_Inodes_placeOf 1 = .ok (.istore_n 3, 1) := by decide +kernel
theorem d_Inodes_placeOf_2 : decode b_Inodes_placeOf 2 = .ok (.aload_n 0, 1) := by decide +kernel
theorem d_Inodes_placeOf_3 : decode b_Inodes_placeOf 3 = .ok (.iload_n 1, 1) := by decide +kernel
theorem d_Inodes_placeOf_4 : decode b_Inodes_placeOf 4 = .ok (.invokevirtual 67, 3) := by decide +kernel
theorem d_Inodes_placeOf_7 : decode b_Inodes_placeOf 7 = .ok (.istore 4, 2) := by decide +kernel
theorem d_Inodes_placeOf_9 : decode b_Inodes_placeOf 9 = .ok (.iconst 0, 1) := by decide +kernel
theorem d_Inodes_placeOf_10 : decode b_Inodes_placeOf 10 = .ok (.istore 5, 2) := by decide +kernel
theorem d_Inodes_placeOf_12 : decode b_Inodes_placeOf 12 = .ok (.iload 5, 2) := by decide +kernel
theorem d_Inodes_placeOf_14 : decode b_Inodes_placeOf 14 = .ok (.iload 4, 2) := by decide +kernel
theorem d_Inodes_placeOf_16 : decode b_Inodes_placeOf 16 = .ok (.if_icmp .ge 45, 3) := by decide +kernel
theorem d_Inodes_placeOf_19 : decode b_Inodes_placeOf 19 = .ok (.aload_n 0, 1) := by decide +kernel
theorem d_Inodes_placeOf_20 : decode b_Inodes_placeOf 20 = .ok (.iload_n 1, 1) := by decide +kernel
theorem d_Inodes_placeOf_21 : decode b_Inodes_placeOf 21 = .ok (.iload 5, 2) := by decide +kernel
theorem d_Inodes_placeOf_23 : decode b_Inodes_placeOf 23 = .ok (.invokevirtual 70, 3) := by decide +kernel
theorem d_Inodes_placeOf_26 : decode b_Inodes_placeOf 26 = .ok (.bipush 64, 2) := by decide +kernel
theorem d_Inodes_placeOf_28 : decode b_Inodes_placeOf 28 = .ok (.imul, 1) := by decide +kernel
theorem d_Inodes_placeOf_29 : decode b_Inodes_placeOf 29 = .ok (.istore 6, 2) := by decide +kernel
theorem d_Inodes_placeOf_31 : decode b_Inodes_placeOf 31 = .ok (.iload_n 3, 1) := by decide +kernel
theorem d_Inodes_placeOf_32 : decode b_Inodes_placeOf 32 = .ok (.iload 6, 2) := by decide +kernel
theorem d_Inodes_placeOf_34 : decode b_Inodes_placeOf 34 = .ok (.if_icmp .ge 16, 3) := by decide +kernel
theorem d_Inodes_placeOf_37 : decode b_Inodes_placeOf 37 = .ok (.aload_n 0, 1) := by decide +kernel
theorem d_Inodes_placeOf_38 : decode b_Inodes_placeOf 38 = .ok (.iload_n 1, 1) := by decide +kernel
theorem d_Inodes_placeOf_39 : decode b_Inodes_placeOf 39 = .ok (.iload 5, 2) := by decide +kernel
theorem d_Inodes_placeOf_41 : decode b_Inodes_placeOf 41 = .ok (.invokevirtual 73, 3) := by decide +kernel
theorem d_Inodes_placeOf_44 : decode b_Inodes_placeOf 44 = .ok (.bipush 64, 2) := by decide +kernel
theorem d_Inodes_placeOf_46 : decode b_Inodes_placeOf 46 = .ok (.imul, 1) := by decide +kernel
theorem d_Inodes_placeOf_47 : decode b_Inodes_placeOf 47 = .ok (.iload_n 3, 1) := by decide +kernel
theorem d_Inodes_placeOf_48 : decode b_Inodes_placeOf 48 = .ok (.iadd, 1) := by decide +kernel
theorem d_Inodes_placeOf_49 : decode b_Inodes_placeOf 49 = .ok (.ireturn, 1) := by decide +kernel
theorem d_Inodes_placeOf_50 : decode b_Inodes_placeOf 50 = .ok (.iload_n 3, 1) := by decide +kernel
theorem d_Inodes_placeOf_51 : decode b_Inodes_placeOf 51 = .ok (.iload 6, 2) := by decide +kernel
theorem d_Inodes_placeOf_53 : decode b_Inodes_placeOf 53 = .ok (.isub, 1) := by decide +kernel
theorem d_Inodes_placeOf_54 : decode b_Inodes_placeOf 54 = .ok (.istore_n 3, 1) := by decide +kernel
theorem d_Inodes_placeOf_55 : decode b_Inodes_placeOf 55 = .ok (.iinc 5 1, 3) := by decide +kernel
theorem d_Inodes_placeOf_58 : decode b_Inodes_placeOf 58 = .ok (.goto (-46), 3) := by decide +kernel
theorem d_Inodes_placeOf_61 : decode b_Inodes_placeOf 61 = .ok (.iconst (-1), 1) := by decide +kernel
theorem d_Inodes_placeOf_62 : decode b_Inodes_placeOf 62 = .ok (.ireturn, 1) := by decide +kernel
set_option maxHeartbeats 4000000 in
set_option maxRecDepth 100000 in
theorem c_Inodes_placeOf (l : Launch) (D : va_G) (g : Nat → Nat) (k : Nat → ClassId) (L : Nat) (hL0 : 96 ≤ L) (hL : L ≤ 768) (u : DSt) (i t0 : Nat) (ht0 : t0 < 1000000000) : RoI l y_Inodes_placeOf w_Inodes_placeOf ({ frames := 3, cells := 0, slots := 0, locals := 64 }) [.ref (g 6), .int (nI i), .int (nI t0)] (RoP D cl5 (tyC k) (wI g k L u)) (plc L (dNow u) i t0) := by
  refine Met.ofW (cc := b_Inodes_placeOf) (maxL := 7) (ret := (some .int)) (by decide) rfl ?_
  intro p e s m args below meth c s₁ B hml hv
  obtain ⟨rfl, hP, hK⟩ := hv
  have hx := B.exec
  have hb := B.bytes
  have hr := B.returns
  have hts := atoms_spec (ws := w_Inodes_placeOf) B.pre
  have hTB : ∀ w ∈ lw_tb, w.before _ s = true := fun w h => hts w (List.mem_cons_of_mem _ h)
  have hown : s.vm.findClass R_Inodes = some m.cls := findClass_of_methodNamed B.named
  have hlocks := B.notSynchronized
  have hS : va_S (fun _ => False) s.heap s.heap [] := va_S.rf
  have hl := lv_entry ([.ref (g 6), .int (nI i), .int (nI t0)]) (n := 7) (Nat.le_of_ble_eq_true rfl)
  rw [lg_entry_eq]
  generalize (lg_sl ([.ref (g 6), .int (nI i), .int (nI t0)]) ++ List.replicate (7 - (lg_sl ([.ref (g 6), .int (nI i), .int (nI t0)])).length) Slot.unset).toArray = ls at hl ⊢
  have hl : lv_has ls 7 [(0, .ref (g 6)), (1, .int (nI i)), (2, .int (nI t0))] := hl
  refine lv_iload_n hx hb d_Inodes_placeOf_0 rfl (lv_at hl 2 rfl) ?_
  refine lv_istore_n (lv' := [(3, .int (nI t0)), (0, .ref (g 6)), (1, .int (nI i)), (2, .int (nI t0))]) hx hb d_Inodes_placeOf_1 rfl hl (by decide) rfl (fun ls hl => ?_)
  refine lv_aload_n hx hb d_Inodes_placeOf_2 rfl (lv_at hl 1 rfl) ?_
  refine lv_iload_n hx hb d_Inodes_placeOf_3 rfl (lv_at hl 2 rfl) ?_
  refine gz_roV (As := [.int (nI i)]) (rest := []) (wc := (wI g k L u)) ⟨hx, hb, hml, hown, hTB⟩ (c_Inodes_extents l D g k L hL0 hL u i) (cwV 1 hTB (gd_V k_365 k_366 k_367 k_54 k_368) rfl rfl rfl (by decide +kernel) ⟨Nat.le_of_ble_eq_true rfl, Nat.le_of_ble_eq_true rfl⟩) hK hP [0, 1, 2, 3, 4, 5, 6] rfl 0 rfl rfl rfl hl.1 rfl (Nat.le_of_ble_eq_true rfl) d_Inodes_placeOf_4 ⟨Nat.zero_le _, Nat.zero_le _⟩ hS (fun H locs hP hS => ?_)
  have := iX_lt L (dNow u) i
  refine lv_istore (lv' := [(4, .int (nI (iX L (dNow u) i))), (3, .int (nI t0)), (0, .ref (g 6)), (1, .int (nI i)), (2, .int (nI t0))]) hx hb d_Inodes_placeOf_7 hl (by decide) rfl (fun ls hl => ?_)
  refine lv_iconst (v := nI 0) hx hb d_Inodes_placeOf_9 (by decide +kernel) ?_
  refine lv_istore (lv' := [(5, .int (nI 0)), (4, .int (nI (iX L (dNow u) i))), (3, .int (nI t0)), (0, .ref (g 6)), (1, .int (nI i)), (2, .int (nI t0))]) hx hb d_Inodes_placeOf_10 hl (by decide) rfl (fun ls hl => ?_)
  refine gz_loop 12 (fun (zz : (Nat × Nat)) H locs ls => match zz with | (j, t) => va_P D cl5 (wI g k L u) H ∧ va_S (fun _ => False) s.heap H locs ∧ lv_has ls 7 [(0, .ref (g 6)), (1, .int (nI i)), (3, .int (nI t)), (4, .int (nI (iX L (dNow u) i))), (5, .int (nI j))] ∧ (j ≤ iX L (dNow u) i) ∧ (t ≤ t0) ∧ (plG L (dNow u) i (iX L (dNow u) i - j) j t = plc L (dNow u) i t0)) (fun (zz : (Nat × Nat)) => match zz with | (j, t) => iX L (dNow u) i - j) (fun zz H locs ls hI ih12 => ?_) (0, t0) ⟨hP, hS, lv_sub hl [3, 4, 2, 1, 0] rfl, (by omega), (by omega), rfl⟩
  obtain ⟨j, t⟩ := zz
  obtain ⟨hP, hS, hl, hj1, hj2, hj3⟩ := hI
  refine lv_iload hx hb d_Inodes_placeOf_12 (lv_at hl 4 rfl) ?_
  refine lv_iload hx hb d_Inodes_placeOf_14 (lv_at hl 3 rfl) ?_
  refine gz_icmp_ge (tgt := 61) hx hb d_Inodes_placeOf_16 (by decide) (by omega) (by omega) (fun h16 => ?_) (fun h16 => ?_)
  · refine lv_iconst (v := (-1)) hx hb d_Inodes_placeOf_61 (by decide +kernel) ?_
    exact W.iret (v := (-1)) hx hb hr (fun tt9 ht9 hW9 => ⟨⟨_, (), rfl, (by rw [← hj3, show iX L (dNow u) i - j = 0 by omega]; rfl), trivial⟩, hS.F ht9⟩) hS.2.2 d_Inodes_placeOf_62
  · refine lv_aload_n hx hb d_Inodes_placeOf_19 rfl (lv_at hl 0 rfl) ?_
    refine lv_iload_n hx hb d_Inodes_placeOf_20 rfl (lv_at hl 1 rfl) ?_
    refine lv_iload hx hb d_Inodes_placeOf_21 (lv_at hl 4 rfl) ?_
    refine gz_roV (As := [.int (nI i), .int (nI j)]) (rest := []) (wc := (wI g k L u)) ⟨hx, hb, hml, hown, hTB⟩ (c_Inodes_extentLength l D g k L hL0 hL u i j) (cwV 2 hTB (gd_V k_369 k_370 k_371 k_54 k_372) rfl rfl rfl (by decide +kernel) ⟨Nat.le_of_ble_eq_true rfl, Nat.le_of_ble_eq_true rfl⟩) hK hP [0, 1, 2, 3, 4, 5, 6] rfl 0 rfl rfl rfl hl.1 rfl (Nat.le_of_ble_eq_true rfl) d_Inodes_placeOf_23 ⟨Nat.zero_le _, Nat.zero_le _⟩ hS (fun H locs hP hS => ?_)
    have := xL_lt L (dNow u) i j
    refine lv_bipush (v := nI 64) hx hb d_Inodes_placeOf_26 (by decide +kernel) ?_
    refine gz_imul hx hb d_Inodes_placeOf_28 ?_
    refine lv_istore (lv' := [(6, .int (nI ((xL L (dNow u) i j) * 64))), (0, .ref (g 6)), (1, .int (nI i)), (3, .int (nI t)), (4, .int (nI (iX L (dNow u) i))), (5, .int (nI j))]) hx hb d_Inodes_placeOf_29 hl (by decide) rfl (fun ls hl => ?_)
    refine lv_iload_n hx hb d_Inodes_placeOf_31 rfl (lv_at hl 3 rfl) ?_
    refine lv_iload hx hb d_Inodes_placeOf_32 (lv_at hl 0 rfl) ?_
    refine gz_icmp_ge (tgt := 50) hx hb d_Inodes_placeOf_34 (by decide) (by omega) (by omega) (fun h34 => ?_) (fun h34 => ?_)
    · refine lv_iload_n hx hb d_Inodes_placeOf_50 rfl (lv_at hl 3 rfl) ?_
      refine lv_iload hx hb d_Inodes_placeOf_51 (lv_at hl 0 rfl) ?_
      refine gz_isub hx hb d_Inodes_placeOf_53 (by omega) ?_
      refine lv_istore_n (lv' := [(3, .int (nI (t - ((xL L (dNow u) i j) * 64)))), (6, .int (nI ((xL L (dNow u) i j) * 64))), (0, .ref (g 6)), (1, .int (nI i)), (4, .int (nI (iX L (dNow u) i))), (5, .int (nI j))]) hx hb d_Inodes_placeOf_54 rfl hl (by decide) rfl (fun ls hl => ?_)
      refine lv_iinc (v := nI (j + 1)) (lv' := [(5, .int (nI (j + 1))), (3, .int (nI (t - ((xL L (dNow u) i j) * 64)))), (6, .int (nI ((xL L (dNow u) i j) * 64))), (0, .ref (g 6)), (1, .int (nI i)), (4, .int (nI (iX L (dNow u) i)))]) hx hb d_Inodes_placeOf_55 hl (k := 5) rfl (nI_add j 1) (by decide) rfl (fun ls hl => ?_)
      refine lv_goto (tgt := 12) hx hb d_Inodes_placeOf_58 (by decide) ?_
      exact ih12 (j + 1, t - ((xL L (dNow u) i j) * 64)) _ _ _ (by first | omega | (dsimp only; omega)) ⟨hP, hS, lv_sub hl [3, 4, 1, 5, 0] rfl, (by omega), (by omega), (by rw [← hj3, show iX L (dNow u) i - j = (iX L (dNow u) i - (j + 1)) + 1 by omega, plG, if_neg (by omega)])⟩
    · refine lv_aload_n hx hb d_Inodes_placeOf_37 rfl (lv_at hl 1 rfl) ?_
      refine lv_iload_n hx hb d_Inodes_placeOf_38 rfl (lv_at hl 2 rfl) ?_
      refine lv_iload hx hb d_Inodes_placeOf_39 (lv_at hl 5 rfl) ?_
      refine gz_roV (As := [.int (nI i), .int (nI j)]) (rest := []) (wc := (wI g k L u)) ⟨hx, hb, hml, hown, hTB⟩ (c_Inodes_extentFirst l D g k L hL0 hL u i j) (cwV 2 hTB (gd_V k_376 k_377 k_378 k_54 k_379) rfl rfl rfl (by decide +kernel) ⟨Nat.le_of_ble_eq_true rfl, Nat.le_of_ble_eq_true rfl⟩) hK hP [0, 1, 2, 3, 4, 5, 6] rfl 0 rfl rfl rfl hl.1 rfl (Nat.le_of_ble_eq_true rfl) d_Inodes_placeOf_41 ⟨Nat.zero_le _, Nat.zero_le _⟩ hS (fun H locs hP hS => ?_)
      have := xF_lt L (dNow u) i j
      refine lv_bipush (v := nI 64) hx hb d_Inodes_placeOf_44 (by decide +kernel) ?_
      refine gz_imul hx hb d_Inodes_placeOf_46 ?_
      refine lv_iload_n hx hb d_Inodes_placeOf_47 rfl (lv_at hl 3 rfl) ?_
      refine gz_iadd hx hb d_Inodes_placeOf_48 ?_
      exact W.iret (v := nI (((xF L (dNow u) i j) * 64) + t)) hx hb hr (fun tt9 ht9 hW9 => ⟨⟨_, (), rfl, (by rw [← hj3, show iX L (dNow u) i - j = (iX L (dNow u) i - (j + 1)) + 1 by omega, plG, if_pos h34]), trivial⟩, hS.F ht9⟩) hS.2.2 d_Inodes_placeOf_49
theorem d_Inodes_begin_0 : decode b_Inodes_begin 0 = .ok (.aload_n 0, 1) := by decide +kernel
theorem d_Inodes_begin_1 : decode b_Inodes_begin 1 = .ok (.getfield 9, 3) := by decide +kernel
theorem d_Inodes_begin_4 : decode b_Inodes_begin 4 = .ok (.iload_n 1, 1) := by decide +kernel
theorem d_Inodes_begin_5 : decode b_Inodes_begin 5 = .ok (.invokestatic 15, 3) := by decide +kernel
theorem d_Inodes_begin_8 : decode b_Inodes_begin 8 = .ok (.iload_n 2, 1) := by decide +kernel
theorem d_Inodes_begin_9 : decode b_Inodes_begin 9 = .ok (.invokevirtual 34, 3) := by decide +kernel
theorem d_Inodes_begin_12 : decode b_Inodes_begin 12 = .ok (.return_, 1) := by decide +kernel
set_option maxHeartbeats 4000000 in
set_option maxRecDepth 100000 in
theorem c_Inodes_begin (l : Launch) (D : va_G) (g : Nat → Nat) (k : Nat → ClassId) (L : Nat) (hL0 : 96 ≤ L) (hL : L ≤ 768) (u : DSt) (i : Nat) (v : Int32) : MuV l y_Inodes_begin w_Inodes_begin ({ frames := 3, cells := 0, slots := 0, locals := 106 }) [.ref (g 6), .int (nI i), .int (v)] D cl5 (tyC k) (wI g k L u) (wI g k L (setB L u (nI (1600 + 32 * i)) v)) := by
  intro sz
  refine Met.ofW (cc := b_Inodes_begin) (maxL := 3) (ret := none) (by decide) rfl ?_
  intro p e s m args below meth c s₁ B hml hv
  obtain ⟨rfl, hsz, hP, hK, hD0⟩ := hv
  have hx := B.exec
  have hb := B.bytes
  have hr := B.returns
  have hts := atoms_spec (ws := w_Inodes_begin) B.pre
  have hTB : ∀ w ∈ lw_tb, w.before _ s = true := fun w h => hts w (List.mem_cons_of_mem _ h)
  have hown : s.vm.findClass R_Inodes = some m.cls := findClass_of_methodNamed B.named
  have hlocks := B.notSynchronized
  subst hsz
  have hD := hD0.self (sz := s.heap.size)
  generalize hAe : va_A (wI g k L u) s.heap.size = A at hD ⊢
  have hA : ∀ q : Nat, s.heap.size ≤ q → A q := fun q h => by rw [← hAe]; exact Or.inr h
  have hS : va_S A s.heap s.heap [] := va_S.rf
  have hl := lv_entry ([.ref (g 6), .int (nI i), .int (v)]) (n := 3) (Nat.le_of_ble_eq_true rfl)
  rw [lg_entry_eq]
  generalize (lg_sl ([.ref (g 6), .int (nI i), .int (v)]) ++ List.replicate (3 - (lg_sl ([.ref (g 6), .int (nI i), .int (v)])).length) Slot.unset).toArray = ls at hl ⊢
  have hl : lv_has ls 3 [(0, .ref (g 6)), (1, .int (nI i)), (2, .int (v))] := hl
  refine lv_aload_n hx hb d_Inodes_begin_0 rfl (lv_at hl 0 rfl) ?_
  refine va_get (D := D) (ci := 2) (v := .ref (g 0)) (C := R_Inodes) (T := T_Inodes) (N := 1) hx hb hTB in_Inodes hown hK hP 0 rfl rfl 0 (by decide) (hTB _ k_122) (fun _ h9 => h9) rfl d_Inodes_begin_1 ?_
  refine lv_iload_n hx hb d_Inodes_begin_4 rfl (lv_at hl 1 rfl) ?_
  refine gz_roS (As := [.int (nI i)]) (rest := [.ref (g 0)]) ⟨hx, hb, hml, hown, hTB⟩ (c_Inodes_inodePlace l i) (cwS 1 hTB (gd_S k_147 k_148 k_54 k_149) rfl rfl rfl (by decide +kernel) ⟨Nat.le_of_ble_eq_true rfl, Nat.le_of_ble_eq_true rfl⟩) hP rfl hl.1 rfl (Nat.le_of_ble_eq_true rfl) d_Inodes_begin_5 ⟨Nat.zero_le _, Nat.zero_le _⟩ hS (fun H locs hP hS => ?_)
  refine lv_iload_n hx hb d_Inodes_begin_8 rfl (lv_at hl 2 rfl) ?_
  refine gz_muV (As := [.int (nI (1600 + 32 * i)), .int (v)]) (rest := []) (wc := (wD g k L u)) (w1 := (wD g k L (setB L u (nI (1600 + 32 * i)) v))) (wr := (hI g)) ⟨hx, hb, hml, hown, hTB⟩ (c_Disk_setByte l D g k L hL0 hL u (nI (1600 + 32 * i)) v) (cwV 2 hTB (gd_V k_150 k_151 k_152 k_52 k_153) rfl rfl rfl (by decide +kernel) ⟨Nat.le_of_ble_eq_true rfl, Nat.le_of_ble_eq_true rfl⟩) hK hP hD hA [1, 2, 3, 4, 5, 6] [0] rfl rfl (by decide) rfl (by decide) (by decide) 1 rfl rfl rfl hl.1 rfl (Nat.le_of_ble_eq_true rfl) d_Inodes_begin_9 ⟨Nat.zero_le _, Nat.zero_le _⟩ hS (fun H locs hP hD hS => ?_)
  have hP : va_P D cl5 (wI g k L (setB L u (nI (1600 + 32 * i)) v)) H := hP
  have hD : va_D A (wI g k L (setB L u (nI (1600 + 32 * i)) v)) := hD
  have hP9 : va_P D cl5 (wI g k L (setB L u (nI (1600 + 32 * i)) v)) H := hP
  have hD9 : va_D A (wI g k L (setB L u (nI (1600 + 32 * i)) v)) := hD
  exact W.vret hx hb hr (fun tt9 ht9 hW9 => ⟨⟨(), rfl, trivial, ⟨by rw [ht9]; exact hP9, hD9⟩⟩, hS.F ht9⟩) hS.2.2 d_Inodes_begin_12
theorem d_Inodes_takeBlock_0 : decode b_Inodes_takeBlock 0 = .ok (.aload_n 0, 1) := by decide +kernel
theorem d_Inodes_takeBlock_1 : decode b_Inodes_takeBlock 1 = .ok (.iload_n 1, 1) := by decide +kernel
theorem d_Inodes_takeBlock_2 : decode b_Inodes_takeBlock 2 = .ok (.invokevirtual 67, 3) := by decide +kernel
theorem d_Inodes_takeBlock_5 : decode b_Inodes_takeBlock 5 = .ok (.istore_n 2, 1) := by decide +kernel
theorem d_Inodes_takeBlock_6 : decode b_Inodes_takeBlock 6 = .ok (.iload_n 2, 1) := by decide +kernel
theorem d_Inodes_takeBlock_7 : decode b_Inodes_takeBlock 7 = .ok (.ifCond .le 73, 3) := by decide +kernel
theorem d_Inodes_takeBlock_10 : decode b_Inodes_takeBlock 10 = .ok (.aload_n 0, 1) := by decide +kernel
theorem d_Inodes_takeBlock_11 : decode b_Inodes_takeBlock 11 = .ok (.iload_n 1, 1) := by decide +kernel
theorem d_Inodes_takeBlock_12 : decode b_Inodes_takeBlock 12 = .ok (.iload_n 2, 1) := by decide +kernel
theorem d_Inodes_takeBlock_13 : decode b_Inodes_takeBlock 13 = .ok (.iconst 1, 1) := by decide +kernel
theorem d_Inodes_takeBlock_14 : decode b_Inodes_takeBlock 14 = .ok (.isub, 1) := by decide +kernel
theorem d_Inodes_takeBlock_15 : decode b_Inodes_takeBlock 15 = .ok (.invokevirtual 70, 3) := by decide +kernel
theorem d_Inodes_takeBlock_18 : decode b_Inodes_takeBlock 18 = .ok (.istore_n 3, 1) := by decide +kernel
theorem d_Inodes_takeBlock_19 : decode b_Inodes_takeBlock 19 = .ok (.aload_n 0, 1) := by decide +kernel
theorem d_Inodes_takeBlock_20 : decode b_Inodes_takeBlock 20 = .ok (.iload_n 1, 1) := by decide +kernel
theorem d_Inodes_takeBlock_21 : decode b_Inodes_takeBlock 21 = .ok (.iload_n 2, 1) := by decide +kernel
theorem d_Inodes_takeBlock_22 : decode b_Inodes_takeBlock 22 = .ok (.iconst 1, 1) := by decide +kernel
theorem d_Inodes_takeBlock_23 : decode b_Inodes_takeBlock 23 = .ok (.isub, 1) := by decide +kernel
theorem d_Inodes_takeBlock_24 : decode b_Inodes_takeBlock 24 = .ok (.invokevirtual 73, 3) := by decide +kernel
theorem d_Inodes_takeBlock_27 : decode b_Inodes_takeBlock 27 = .ok (.iload_n 3, 1) := by decide +kernel
theorem d_Inodes_takeBlock_28 : decode b_Inodes_takeBlock 28 = .ok (.iadd, 1) := by decide +kernel
theorem d_Inodes_takeBlock_29 : decode b_Inodes_takeBlock 29 = .ok (.istore 4, 2) := by decide +kernel
theorem d_Inodes_takeBlock_31 : decode b_Inodes_takeBlock 31 = .ok (.iload_n 3, 1) := by decide +kernel
theorem d_Inodes_takeBlock_32 : decode b_Inodes_takeBlock 32 = .ok (.sipush 255, 3) := by decide +kernel
theorem d_Inodes_takeBlock_35 : decode b_Inodes_takeBlock 35 = .ok (.if_icmp .ge 45, 3) := by decide +kernel
theorem d_Inodes_takeBlock_38 : decode b_Inodes_takeBlock 38 = .ok (.aload_n 0, 1) := by decide +kernel
theorem d_Inodes_takeBlock_39 : decode b_Inodes_takeBlock 39 = .ok (.getfield 9, 3) := by decide +kernel
theorem d_Inodes_takeBlock_42 : decode b_Inodes_takeBlock 42 = .ok (.iload 4, 2) := by decide +kernel
theorem d_Inodes_takeBlock_44 : decode b_Inodes_takeBlock 44 = .ok (.invokevirtual 76, 3) := by decide +kernel
theorem d_Inodes_takeBlock_47 : decode b_Inodes_takeBlock 47 = .ok (.ifCond .eq 33, 3) := by decide +kernel
theorem d_Inodes_takeBlock_50 : decode b_Inodes_takeBlock 50 = .ok (.aload_n 0, 1) := by decide +kernel
theorem d_Inodes_takeBlock_51 : decode b_Inodes_takeBlock 51 = .ok (.getfield 9, 3) := by decide +kernel
theorem d_Inodes_takeBlock_54 : decode b_Inodes_takeBlock 54 = .ok (.iload 4, 2) := by decide +kernel
theorem d_Inodes_takeBlock_56 : decode b_Inodes_takeBlock 56 = .ok (.invokevirtual 79, 3) := by decide +kernel
theorem d_Inodes_takeBlock_59 : decode b_Inodes_takeBlock 59 = .ok (.aload_n 0, 1) := by decide +kernel
theorem d_Inodes_takeBlock_60 : decode b_Inodes_takeBlock 60 = .ok (.getfield 9, 3) := by decide +kernel
theorem d_Inodes_takeBlock_63 : decode b_Inodes_takeBlock 63 = .ok (.iload_n 1, 1) := by decide +kernel
theorem d_Inodes_takeBlock_64 : decode b_Inodes_takeBlock 64 = .ok (.iload_n 2, 1) := by decide +kernel
theorem d_Inodes_takeBlock_65 : decode b_Inodes_takeBlock 65 = .ok (.iconst 1, 1) := by decide +kernel
theorem d_Inodes_takeBlock_66 : decode b_Inodes_takeBlock 66 = .ok (.isub, 1) := by decide +kernel
theorem d_Inodes_takeBlock_67 : decode b_Inodes_takeBlock 67 = .ok (.invokestatic 27, 3) := by decide +kernel
theorem d_Inodes_takeBlock_70 : decode b_Inodes_takeBlock 70 = .ok (.iconst 2, 1) := by decide +kernel
theorem d_Inodes_takeBlock_71 : decode b_Inodes_takeBlock 71 = .ok (.iadd, 1) := by decide +kernel
theorem d_Inodes_takeBlock_72 : decode b_Inodes_takeBlock 72 = .ok (.iload_n 3, 1) := by decide +kernel
theorem d_Inodes_takeBlock_73 : decode b_Inodes_takeBlock 73 = .ok (.iconst 1, 1) := by decide +kernel
theorem d_Inodes_takeBlock_74 : decode b_Inodes_takeBlock 74 = .ok (.iadd, 1) := by decide +kernel
theorem d_Inodes_takeBlock_75 : decode b_Inodes_takeBlock 75 = .ok (.invokevirtual 34, 3) := by decide +kernel
theorem d_Inodes_takeBlock_78 : decode b_Inodes_takeBlock 78 = .ok (.iconst 1, 1) := by decide +kernel
theorem d_Inodes_takeBlock_79 : decode b_Inodes_takeBlock 79 = .ok (.ireturn, 1) := by decide +kernel
theorem d_Inodes_takeBlock_80 : decode b_Inodes_takeBlock 80 = .ok (.aload_n 0, 1) := by decide +kernel
theorem d_Inodes_takeBlock_81 : decode b_Inodes_takeBlock 81 = .ok (.getfield 9, 3) := by decide +kernel
theorem d_Inodes_takeBlock_84 : decode b_Inodes_takeBlock 84 = .ok (.invokevirtual 81, 3) := by decide +kernel
theorem d_Inodes_takeBlock_87 : decode b_Inodes_takeBlock 87 = .ok (.istore_n 3, 1) := by decide +kernel
theorem d_Inodes_takeBlock_88 : decode b_Inodes_takeBlock 88 = .ok (.iload_n 3, 1) := by decide +kernel
theorem d_Inodes_takeBlock_89 : decode b_Inodes_takeBlock 89 = .ok (.iconst (-1), 1) := by decide +kernel
theorem d_Inodes_takeBlock_90 : decode b_Inodes_takeBlock 90 = .ok (.if_icmp .eq 9, 3) := by decide +kernel
theorem d_Inodes_takeBlock_93 : decode b_Inodes_takeBlock 93 = .ok (.iload_n 2, 1) := by decide +kernel
theorem d_Inodes_takeBlock_94 : decode b_Inodes_takeBlock 94 = .ok (.bipush 8, 2) := by decide +kernel
theorem d_Inodes_takeBlock_96 : decode b_Inodes_takeBlock 96 = .ok (.if_icmp .lt 5, 3) := by decide +kernel
theorem d_Inodes_takeBlock_99 : decode b_Inodes_takeBlock 99 = .ok (.iconst 0, 1) := by decide +kernel
theorem d_Inodes_takeBlock_100 : decode b_Inodes_takeBlock 100 = .ok (.ireturn, 1) := by decide +kernel
theorem d_Inodes_takeBlock_101 : decode b_Inodes_takeBlock 101 = .ok (.aload_n 0, 1) := by decide +kernel
theorem d_Inodes_takeBlock_102 : decode b_Inodes_takeBlock 102 = .ok (.getfield 9, 3) := by decide +kernel
theorem d_Inodes_takeBlock_105 : decode b_Inodes_takeBlock 105 = .ok (.iload_n 3, 1) := by decide +kernel
theorem d_Inodes_takeBlock_106 : decode b_Inodes_takeBlock 106 = .ok (.invokevirtual 79, 3) := by decide +kernel
theorem d_Inodes_takeBlock_109 : decode b_Inodes_takeBlock 109 = .ok (.aload_n 0, 1) := by decide +kernel
theorem d_Inodes_takeBlock_110 : decode b_Inodes_takeBlock 110 = .ok (.getfield 9, 3) := by decide +kernel
theorem d_Inodes_takeBlock_113 : decode b_Inodes_takeBlock 113 = .ok (.iload_n 1, 1) := by decide +kernel
theorem d_Inodes_takeBlock_114 : decode b_Inodes_takeBlock 114 = .ok (.invokestatic 15, 3) := by decide +kernel
theorem d_Inodes_takeBlock_117 : decode b_Inodes_takeBlock 117 = .ok (.iconst 1, 1) := by decide +kernel
theorem d_Inodes_takeBlock_118 : decode b_Inodes_takeBlock 118 = .ok (.iadd, 1) := by decide +kernel
theorem d_Inodes_takeBlock_119 : decode b_Inodes_takeBlock 119 = .ok (.iload_n 2, 1) := by decide +kernel
theorem d_Inodes_takeBlock_120 : decode b_Inodes_takeBlock 120 = .ok (.iconst 1, 1) := by decide +kernel
theorem d_Inodes_takeBlock_121 : decode b_Inodes_takeBlock 121 = .ok (.iadd, 1) := by decide +kernel
theorem d_Inodes_takeBlock_122 : decode b_Inodes_takeBlock 122 = .ok (.invokevirtual 34, 3) := by decide +kernel
theorem d_Inodes_takeBlock_125 : decode b_Inodes_takeBlock 125 = .ok (.aload_n 0, 1) := by decide +kernel
theorem d_Inodes_takeBlock_126 : decode b_Inodes_takeBlock 126 = .ok (.getfield 9, 3) := by decide +kernel
theorem d_Inodes_takeBlock_129 : decode b_Inodes_takeBlock 129 = .ok (.iload_n 1, 1) := by decide +kernel
theorem d_Inodes_takeBlock_130 : decode b_Inodes_takeBlock 130 = .ok (.iload_n 2, 1) := by decide +kernel
theorem d_Inodes_takeBlock_131 : decode b_Inodes_takeBlock 131 = .ok (.invokestatic 27, 3) := by decide +kernel
theorem d_Inodes_takeBlock_134 : decode b_Inodes_takeBlock 134 = .ok (.iload_n 3, 1) := by decide +kernel
theorem d_Inodes_takeBlock_135 : decode b_Inodes_takeBlock 135 = .ok (.invokevirtual 64, 3) := by decide +kernel
theorem d_Inodes_takeBlock_138 : decode b_Inodes_takeBlock 138 = .ok (.aload_n 0, 1) := by decide +kernel
theorem d_Inodes_takeBlock_139 : decode b_Inodes_takeBlock 139 = .ok (.getfield 9, 3) := by decide +kernel
theorem d_Inodes_takeBlock_142 : decode b_Inodes_takeBlock 142 = .ok (.iload_n 1, 1) := by decide +kernel
theorem d_Inodes_takeBlock_143 : decode b_Inodes_takeBlock 143 = .ok (.iload_n 2, 1) := by decide +kernel
theorem d_Inodes_takeBlock_144 : decode b_Inodes_takeBlock 144 = .ok (.invokestatic 27, 3) := by decide +kernel
theorem d_Inodes_takeBlock_147 : decode b_Inodes_takeBlock 147 = .ok (.iconst 2, 1) := by decide +kernel
theorem d_Inodes_takeBlock_148 : decode b_Inodes_takeBlock 148 = .ok (.iadd, 1) := by decide +kernel
theorem d_Inodes_takeBlock_149 : decode b_Inodes_takeBlock 149 = .ok (.iconst 1, 1) := by decide +kernel
theorem d_Inodes_takeBlock_150 : decode b_Inodes_takeBlock 150 = .ok (.invokevirtual 34, 3) := by decide +kernel
theorem d_Inodes_takeBlock_153 : decode b_Inodes_takeBlock 153 = .ok (.iconst 1, 1) := by decide +kernel
theorem d_Inodes_takeBlock_154 : decode b_Inodes_takeBlock 154 = .ok (.ireturn, 1) := by decide +kernel
set_option maxHeartbeats 4000000 in
set_option maxRecDepth 100000 in
theorem c_Inodes_takeBlock (l : Launch) (D : va_G) (g : Nat → Nat) (k : Nat → ClassId) (L : Nat) (hL0 : 96 ≤ L) (hL : L ≤ 768) (u : DSt) (i : Nat) : MuI l y_Inodes_takeBlock w_Inodes_takeBlock ({ frames := 4, cells := 0, slots := 0, locals := 128 }) [.ref (g 6), .int (nI i)] D cl5 (tyC k) (wI g k L u) (wI g k L ((tkI L u i).2)) (zI (tkI L u i).1) := by
  intro sz
  refine Met.ofW (cc := b_Inodes_takeBlock) (maxL := 5) (ret := (some .boolean)) (by decide) rfl ?_
  intro p e s m args below meth c s₁ B hml hv
  obtain ⟨rfl, hsz, hP, hK, hD0⟩ := hv
  have hx := B.exec
  have hb := B.bytes
  have hr := B.returns
  have hts := atoms_spec (ws := w_Inodes_takeBlock) B.pre
  have hTB : ∀ w ∈ lw_tb, w.before _ s = true := fun w h => hts w (List.mem_cons_of_mem _ h)
  have hown : s.vm.findClass R_Inodes = some m.cls := findClass_of_methodNamed B.named
  have hlocks := B.notSynchronized
  subst hsz
  have hD := hD0.self (sz := s.heap.size)
  generalize hAe : va_A (wI g k L u) s.heap.size = A at hD ⊢
  have hA : ∀ q : Nat, s.heap.size ≤ q → A q := fun q h => by rw [← hAe]; exact Or.inr h
  have hS : va_S A s.heap s.heap [] := va_S.rf
  have hl := lv_entry ([.ref (g 6), .int (nI i)]) (n := 5) (Nat.le_of_ble_eq_true rfl)
  rw [lg_entry_eq]
  generalize (lg_sl ([.ref (g 6), .int (nI i)]) ++ List.replicate (5 - (lg_sl ([.ref (g 6), .int (nI i)])).length) Slot.unset).toArray = ls at hl ⊢
  have hl : lv_has ls 5 [(0, .ref (g 6)), (1, .int (nI i))] := hl
  refine lv_aload_n hx hb d_Inodes_takeBlock_0 rfl (lv_at hl 0 rfl) ?_
  refine lv_iload_n hx hb d_Inodes_takeBlock_1 rfl (lv_at hl 1 rfl) ?_
  refine gz_roV (As := [.int (nI i)]) (rest := []) (wc := (wI g k L u)) ⟨hx, hb, hml, hown, hTB⟩ (c_Inodes_extents l D g k L hL0 hL u i) (cwV 1 hTB (gd_V k_365 k_366 k_367 k_54 k_368) rfl rfl rfl (by decide +kernel) ⟨Nat.le_of_ble_eq_true rfl, Nat.le_of_ble_eq_true rfl⟩) hK hP [0, 1, 2, 3, 4, 5, 6] rfl 0 rfl rfl rfl hl.1 rfl (Nat.le_of_ble_eq_true rfl) d_Inodes_takeBlock_2 ⟨Nat.zero_le _, Nat.zero_le _⟩ hS (fun H locs hP hS => ?_)
  have := iX_lt L (dNow u) i
  refine lv_istore_n (lv' := [(2, .int (nI (iX L (dNow u) i))), (0, .ref (g 6)), (1, .int (nI i))]) hx hb d_Inodes_takeBlock_5 rfl hl (by decide) rfl (fun ls hl => ?_)
  refine lv_iload_n hx hb d_Inodes_takeBlock_6 rfl (lv_at hl 0 rfl) ?_
  refine gz_if_le (tgt := 80) hx hb d_Inodes_takeBlock_7 (by decide) (by omega) (fun h7 => ?_) (fun h7 => ?_)
  · have hno : ¬ tkC L (dNow u) i := fun z => by have := z.1; omega
    refine lv_aload_n hx hb d_Inodes_takeBlock_80 rfl (lv_at hl 1 rfl) ?_
    refine va_get (D := D) (ci := 2) (v := .ref (g 0)) (C := R_Inodes) (T := T_Inodes) (N := 1) hx hb hTB in_Inodes hown hK hP 0 rfl rfl 0 (by decide) (hTB _ k_122) (fun _ h9 => h9) rfl d_Inodes_takeBlock_81 ?_
    refine gz_roV (As := []) (rest := []) (wc := (wD g k L u)) ⟨hx, hb, hml, hown, hTB⟩ (c_Disk_leastFree l D g k L hL0 hL u) (cwV 0 hTB (gd_V k_408 k_409 k_410 k_52 k_411) rfl rfl rfl (by decide +kernel) ⟨Nat.le_of_ble_eq_true rfl, Nat.le_of_ble_eq_true rfl⟩) hK hP [1, 2, 3, 4, 5, 6] rfl 1 rfl rfl rfl hl.1 rfl (Nat.le_of_ble_eq_true rfl) d_Inodes_takeBlock_84 ⟨Nat.zero_le _, Nat.zero_le _⟩ hS (fun H locs hP hS => ?_)
    refine lv_istore_n (lv' := [(3, .int (lfr L (dNow u))), (2, .int (nI (iX L (dNow u) i))), (0, .ref (g 6)), (1, .int (nI i))]) hx hb d_Inodes_takeBlock_87 rfl hl (by decide) rfl (fun ls hl => ?_)
    refine lv_iload_n hx hb d_Inodes_takeBlock_88 rfl (lv_at hl 0 rfl) ?_
    refine lv_iconst (v := (-1)) hx hb d_Inodes_takeBlock_89 (by decide +kernel) ?_
    refine lv_icmp_eq (tgt := 99) hx hb d_Inodes_takeBlock_90 (by decide) (fun h90 => ?_) (fun h90 => ?_)
    · refine lv_iconst (v := nI 0) hx hb d_Inodes_takeBlock_99 (by decide +kernel) ?_
      have hP9 : va_P D cl5 (wI g k L ((tkI L u i).2)) H := (by rw [tkI_n hno (by first | exact Or.inl h90 | exact Or.inr h96)]; exact hP)
      have hD9 : va_D A (wI g k L ((tkI L u i).2)) := (by rw [tkI_n hno (by first | exact Or.inl h90 | exact Or.inr h96)]; exact hD)
      exact W.zret (v := nI 0) (ty := .boolean) hx hb hr (by decide +kernel) (fun tt9 ht9 hW9 => ⟨⟨_, (), rfl, (by rw [tkI_n hno (by first | exact Or.inl h90 | exact Or.inr h96)]; rfl), ⟨by rw [ht9]; exact hP9, hD9⟩⟩, hS.F ht9⟩) hS.2.2 d_Inodes_takeBlock_100
    · refine lv_iload_n hx hb d_Inodes_takeBlock_93 rfl (lv_at hl 1 rfl) ?_
      refine lv_bipush (v := nI 8) hx hb d_Inodes_takeBlock_94 (by decide +kernel) ?_
      refine gz_icmp_lt (tgt := 101) hx hb d_Inodes_takeBlock_96 (by decide) (by omega) (by omega) (fun h96 => ?_) (fun h96 => ?_)
      · refine lv_aload_n hx hb d_Inodes_takeBlock_101 rfl (lv_at hl 2 rfl) ?_
        refine va_get (D := D) (ci := 2) (v := .ref (g 0)) (C := R_Inodes) (T := T_Inodes) (N := 1) hx hb hTB in_Inodes hown hK hP 0 rfl rfl 0 (by decide) (hTB _ k_122) (fun _ h9 => h9) rfl d_Inodes_takeBlock_102 ?_
        refine lv_iload_n hx hb d_Inodes_takeBlock_105 rfl (lv_at hl 0 rfl) ?_
        refine gz_muV (As := [.int (lfr L (dNow u))]) (rest := []) (wc := (wD g k L u)) (w1 := (wD g k L (tkB L u (lfr L (dNow u))))) (wr := (hI g)) ⟨hx, hb, hml, hown, hTB⟩ (c_Disk_takeBlock l D g k L hL0 hL u (lfr L (dNow u))) (cwV 1 hTB (gd_V k_404 k_405 k_406 k_52 k_407) rfl rfl rfl (by decide +kernel) ⟨Nat.le_of_ble_eq_true rfl, Nat.le_of_ble_eq_true rfl⟩) hK hP hD hA [1, 2, 3, 4, 5, 6] [0] rfl rfl (by decide) rfl (by decide) (by decide) 1 rfl rfl rfl hl.1 rfl (Nat.le_of_ble_eq_true rfl) d_Inodes_takeBlock_106 ⟨Nat.zero_le _, Nat.zero_le _⟩ hS (fun H locs hP hD hS => ?_)
        have hP : va_P D cl5 (wI g k L (tkB L u (lfr L (dNow u)))) H := hP
        have hD : va_D A (wI g k L (tkB L u (lfr L (dNow u)))) := hD
        refine lv_aload_n hx hb d_Inodes_takeBlock_109 rfl (lv_at hl 2 rfl) ?_
        refine va_get (D := D) (ci := 2) (v := .ref (g 0)) (C := R_Inodes) (T := T_Inodes) (N := 1) hx hb hTB in_Inodes hown hK hP 0 rfl rfl 0 (by decide) (hTB _ k_122) (fun _ h9 => h9) rfl d_Inodes_takeBlock_110 ?_
        refine lv_iload_n hx hb d_Inodes_takeBlock_113 rfl (lv_at hl 3 rfl) ?_
        refine gz_roS (As := [.int (nI i)]) (rest := [.ref (g 0)]) ⟨hx, hb, hml, hown, hTB⟩ (c_Inodes_inodePlace l i) (cwS 1 hTB (gd_S k_147 k_148 k_54 k_149) rfl rfl rfl (by decide +kernel) ⟨Nat.le_of_ble_eq_true rfl, Nat.le_of_ble_eq_true rfl⟩) hP rfl hl.1 rfl (Nat.le_of_ble_eq_true rfl) d_Inodes_takeBlock_114 ⟨Nat.zero_le _, Nat.zero_le _⟩ hS (fun H locs hP hS => ?_)
        refine lv_iconst (v := nI 1) hx hb d_Inodes_takeBlock_117 (by decide +kernel) ?_
        refine gz_iadd hx hb d_Inodes_takeBlock_118 ?_
        refine lv_iload_n hx hb d_Inodes_takeBlock_119 rfl (lv_at hl 1 rfl) ?_
        refine lv_iconst (v := nI 1) hx hb d_Inodes_takeBlock_120 (by decide +kernel) ?_
        refine gz_iadd hx hb d_Inodes_takeBlock_121 ?_
        refine gz_muV (As := [.int (nI ((1600 + 32 * i) + 1)), .int (nI ((iX L (dNow u) i) + 1))]) (rest := []) (wc := (wD g k L (tkB L u (lfr L (dNow u))))) (w1 := (wD g k L (setB L (tkB L u (lfr L (dNow u))) (nI ((1600 + 32 * i) + 1)) (nI ((iX L (dNow u) i) + 1))))) (wr := (hI g)) ⟨hx, hb, hml, hown, hTB⟩ (c_Disk_setByte l D g k L hL0 hL (tkB L u (lfr L (dNow u))) (nI ((1600 + 32 * i) + 1)) (nI ((iX L (dNow u) i) + 1))) (cwV 2 hTB (gd_V k_150 k_151 k_152 k_52 k_153) rfl rfl rfl (by decide +kernel) ⟨Nat.le_of_ble_eq_true rfl, Nat.le_of_ble_eq_true rfl⟩) hK hP hD hA [1, 2, 3, 4, 5, 6] [0] rfl rfl (by decide) rfl (by decide) (by decide) 1 rfl rfl rfl hl.1 rfl (Nat.le_of_ble_eq_true rfl) d_Inodes_takeBlock_122 ⟨Nat.zero_le _, Nat.zero_le _⟩ hS (fun H locs hP hD hS => ?_)
        have hP : va_P D cl5 (wI g k L (setB L (tkB L u (lfr L (dNow u))) (nI ((1600 + 32 * i) + 1)) (nI ((iX L (dNow u) i) + 1)))) H := hP
        have hD : va_D A (wI g k L (setB L (tkB L u (lfr L (dNow u))) (nI ((1600 + 32 * i) + 1)) (nI ((iX L (dNow u) i) + 1)))) := hD
        refine lv_aload_n hx hb d_Inodes_takeBlock_125 rfl (lv_at hl 2 rfl) ?_
        refine va_get (D := D) (ci := 2) (v := .ref (g 0)) (C := R_Inodes) (T := T_Inodes) (N := 1) hx hb hTB in_Inodes hown hK hP 0 rfl rfl 0 (by decide) (hTB _ k_122) (fun _ h9 => h9) rfl d_Inodes_takeBlock_126 ?_
        refine lv_iload_n hx hb d_Inodes_takeBlock_129 rfl (lv_at hl 3 rfl) ?_
        refine lv_iload_n hx hb d_Inodes_takeBlock_130 rfl (lv_at hl 1 rfl) ?_
        refine gz_roS (As := [.int (nI i), .int (nI (iX L (dNow u) i))]) (rest := [.ref (g 0)]) ⟨hx, hb, hml, hown, hTB⟩ (c_Inodes_extentPlace l i (iX L (dNow u) i)) (cwS 2 hTB (gd_S k_373 k_374 k_54 k_375) rfl rfl rfl (by decide +kernel) ⟨Nat.le_of_ble_eq_true rfl, Nat.le_of_ble_eq_true rfl⟩) hP rfl hl.1 rfl (Nat.le_of_ble_eq_true rfl) d_Inodes_takeBlock_131 ⟨Nat.zero_le _, Nat.zero_le _⟩ hS (fun H locs hP hS => ?_)
        refine lv_iload_n hx hb d_Inodes_takeBlock_134 rfl (lv_at hl 0 rfl) ?_
        refine gz_muV (As := [.int (nI (1600 + 32 * i + 4 + 3 * (iX L (dNow u) i))), .int (lfr L (dNow u))]) (rest := []) (wc := (wD g k L (setB L (tkB L u (lfr L (dNow u))) (nI ((1600 + 32 * i) + 1)) (nI ((iX L (dNow u) i) + 1))))) (w1 := (wD g k L (setP L (setB L (tkB L u (lfr L (dNow u))) (nI ((1600 + 32 * i) + 1)) (nI ((iX L (dNow u) i) + 1))) (nI (1600 + 32 * i + 4 + 3 * (iX L (dNow u) i))) (lfr L (dNow u))))) (wr := (hI g)) ⟨hx, hb, hml, hown, hTB⟩ (c_Disk_setPair l D g k L hL0 hL (setB L (tkB L u (lfr L (dNow u))) (nI ((1600 + 32 * i) + 1)) (nI ((iX L (dNow u) i) + 1))) (nI (1600 + 32 * i + 4 + 3 * (iX L (dNow u) i))) (lfr L (dNow u))) (cwV 2 hTB (gd_V k_412 k_413 k_414 k_52 k_415) rfl rfl rfl (by decide +kernel) ⟨Nat.le_of_ble_eq_true rfl, Nat.le_of_ble_eq_true rfl⟩) hK hP hD hA [1, 2, 3, 4, 5, 6] [0] rfl rfl (by decide) rfl (by decide) (by decide) 1 rfl rfl rfl hl.1 rfl (Nat.le_of_ble_eq_true rfl) d_Inodes_takeBlock_135 ⟨Nat.zero_le _, Nat.zero_le _⟩ hS (fun H locs hP hD hS => ?_)
        have hP : va_P D cl5 (wI g k L (setP L (setB L (tkB L u (lfr L (dNow u))) (nI ((1600 + 32 * i) + 1)) (nI ((iX L (dNow u) i) + 1))) (nI (1600 + 32 * i + 4 + 3 * (iX L (dNow u) i))) (lfr L (dNow u)))) H := hP
        have hD : va_D A (wI g k L (setP L (setB L (tkB L u (lfr L (dNow u))) (nI ((1600 + 32 * i) + 1)) (nI ((iX L (dNow u) i) + 1))) (nI (1600 + 32 * i + 4 + 3 * (iX L (dNow u) i))) (lfr L (dNow u)))) := hD
        refine lv_aload_n hx hb d_Inodes_takeBlock_138 rfl (lv_at hl 2 rfl) ?_
        refine va_get (D := D) (ci := 2) (v := .ref (g 0)) (C := R_Inodes) (T := T_Inodes) (N := 1) hx hb hTB in_Inodes hown hK hP 0 rfl rfl 0 (by decide) (hTB _ k_122) (fun _ h9 => h9) rfl d_Inodes_takeBlock_139 ?_
        refine lv_iload_n hx hb d_Inodes_takeBlock_142 rfl (lv_at hl 3 rfl) ?_
        refine lv_iload_n hx hb d_Inodes_takeBlock_143 rfl (lv_at hl 1 rfl) ?_
        refine gz_roS (As := [.int (nI i), .int (nI (iX L (dNow u) i))]) (rest := [.ref (g 0)]) ⟨hx, hb, hml, hown, hTB⟩ (c_Inodes_extentPlace l i (iX L (dNow u) i)) (cwS 2 hTB (gd_S k_373 k_374 k_54 k_375) rfl rfl rfl (by decide +kernel) ⟨Nat.le_of_ble_eq_true rfl, Nat.le_of_ble_eq_true rfl⟩) hP rfl hl.1 rfl (Nat.le_of_ble_eq_true rfl) d_Inodes_takeBlock_144 ⟨Nat.zero_le _, Nat.zero_le _⟩ hS (fun H locs hP hS => ?_)
        refine lv_iconst (v := nI 2) hx hb d_Inodes_takeBlock_147 (by decide +kernel) ?_
        refine gz_iadd hx hb d_Inodes_takeBlock_148 ?_
        refine lv_iconst (v := nI 1) hx hb d_Inodes_takeBlock_149 (by decide +kernel) ?_
        refine gz_muV (As := [.int (nI ((1600 + 32 * i + 4 + 3 * (iX L (dNow u) i)) + 2)), .int (nI 1)]) (rest := []) (wc := (wD g k L (setP L (setB L (tkB L u (lfr L (dNow u))) (nI ((1600 + 32 * i) + 1)) (nI ((iX L (dNow u) i) + 1))) (nI (1600 + 32 * i + 4 + 3 * (iX L (dNow u) i))) (lfr L (dNow u))))) (w1 := (wD g k L (setB L (setP L (setB L (tkB L u (lfr L (dNow u))) (nI ((1600 + 32 * i) + 1)) (nI ((iX L (dNow u) i) + 1))) (nI (1600 + 32 * i + 4 + 3 * (iX L (dNow u) i))) (lfr L (dNow u))) (nI ((1600 + 32 * i + 4 + 3 * (iX L (dNow u) i)) + 2)) (nI 1)))) (wr := (hI g)) ⟨hx, hb, hml, hown, hTB⟩ (c_Disk_setByte l D g k L hL0 hL (setP L (setB L (tkB L u (lfr L (dNow u))) (nI ((1600 + 32 * i) + 1)) (nI ((iX L (dNow u) i) + 1))) (nI (1600 + 32 * i + 4 + 3 * (iX L (dNow u) i))) (lfr L (dNow u))) (nI ((1600 + 32 * i + 4 + 3 * (iX L (dNow u) i)) + 2)) (nI 1)) (cwV 2 hTB (gd_V k_150 k_151 k_152 k_52 k_153) rfl rfl rfl (by decide +kernel) ⟨Nat.le_of_ble_eq_true rfl, Nat.le_of_ble_eq_true rfl⟩) hK hP hD hA [1, 2, 3, 4, 5, 6] [0] rfl rfl (by decide) rfl (by decide) (by decide) 1 rfl rfl rfl hl.1 rfl (Nat.le_of_ble_eq_true rfl) d_Inodes_takeBlock_150 ⟨Nat.zero_le _, Nat.zero_le _⟩ hS (fun H locs hP hD hS => ?_)
        have hP : va_P D cl5 (wI g k L (setB L (setP L (setB L (tkB L u (lfr L (dNow u))) (nI ((1600 + 32 * i) + 1)) (nI ((iX L (dNow u) i) + 1))) (nI (1600 + 32 * i + 4 + 3 * (iX L (dNow u) i))) (lfr L (dNow u))) (nI ((1600 + 32 * i + 4 + 3 * (iX L (dNow u) i)) + 2)) (nI 1))) H := hP
        have hD : va_D A (wI g k L (setB L (setP L (setB L (tkB L u (lfr L (dNow u))) (nI ((1600 + 32 * i) + 1)) (nI ((iX L (dNow u) i) + 1))) (nI (1600 + 32 * i + 4 + 3 * (iX L (dNow u) i))) (lfr L (dNow u))) (nI ((1600 + 32 * i + 4 + 3 * (iX L (dNow u) i)) + 2)) (nI 1))) := hD
        refine lv_iconst (v := nI 1) hx hb d_Inodes_takeBlock_153 (by decide +kernel) ?_
        have hP9 : va_P D cl5 (wI g k L ((tkI L u i).2)) H := (by rw [tkI_l hno h90 h96]; exact hP)
        have hD9 : va_D A (wI g k L ((tkI L u i).2)) := (by rw [tkI_l hno h90 h96]; exact hD)
        exact W.zret (v := nI 1) (ty := .boolean) hx hb hr (by decide +kernel) (fun tt9 ht9 hW9 => ⟨⟨_, (), rfl, (by rw [tkI_l hno h90 h96]; rfl), ⟨by rw [ht9]; exact hP9, hD9⟩⟩, hS.F ht9⟩) hS.2.2 d_Inodes_takeBlock_154
      · refine lv_iconst (v := nI 0) hx hb d_Inodes_takeBlock_99 (by decide +kernel) ?_
        have hP9 : va_P D cl5 (wI g k L ((tkI L u i).2)) H := (by rw [tkI_n hno (by first | exact Or.inl h90 | exact Or.inr h96)]; exact hP)
        have hD9 : va_D A (wI g k L ((tkI L u i).2)) := (by rw [tkI_n hno (by first | exact Or.inl h90 | exact Or.inr h96)]; exact hD)
        exact W.zret (v := nI 0) (ty := .boolean) hx hb hr (by decide +kernel) (fun tt9 ht9 hW9 => ⟨⟨_, (), rfl, (by rw [tkI_n hno (by first | exact Or.inl h90 | exact Or.inr h96)]; rfl), ⟨by rw [ht9]; exact hP9, hD9⟩⟩, hS.F ht9⟩) hS.2.2 d_Inodes_takeBlock_100
  · refine lv_aload_n hx hb d_Inodes_takeBlock_10 rfl (lv_at hl 1 rfl) ?_
    refine lv_iload_n hx hb d_Inodes_takeBlock_11 rfl (lv_at hl 2 rfl) ?_
    refine lv_iload_n hx hb d_Inodes_takeBlock_12 rfl (lv_at hl 0 rfl) ?_
    refine lv_iconst (v := nI 1) hx hb d_Inodes_takeBlock_13 (by decide +kernel) ?_
    refine gz_isub hx hb d_Inodes_takeBlock_14 (by omega) ?_
    refine gz_roV (As := [.int (nI i), .int (nI ((iX L (dNow u) i) - 1))]) (rest := []) (wc := (wI g k L u)) ⟨hx, hb, hml, hown, hTB⟩ (c_Inodes_extentLength l D g k L hL0 hL u i ((iX L (dNow u) i) - 1)) (cwV 2 hTB (gd_V k_369 k_370 k_371 k_54 k_372) rfl rfl rfl (by decide +kernel) ⟨Nat.le_of_ble_eq_true rfl, Nat.le_of_ble_eq_true rfl⟩) hK hP [0, 1, 2, 3, 4, 5, 6] rfl 0 rfl rfl rfl hl.1 rfl (Nat.le_of_ble_eq_true rfl) d_Inodes_takeBlock_15 ⟨Nat.zero_le _, Nat.zero_le _⟩ hS (fun H locs hP hS => ?_)
    have := xL_lt L (dNow u) i ((iX L (dNow u) i) - 1)
    refine lv_istore_n (lv' := [(3, .int (nI (xL L (dNow u) i ((iX L (dNow u) i) - 1)))), (2, .int (nI (iX L (dNow u) i))), (0, .ref (g 6)), (1, .int (nI i))]) hx hb d_Inodes_takeBlock_18 rfl hl (by decide) rfl (fun ls hl => ?_)
    refine lv_aload_n hx hb d_Inodes_takeBlock_19 rfl (lv_at hl 2 rfl) ?_
    refine lv_iload_n hx hb d_Inodes_takeBlock_20 rfl (lv_at hl 3 rfl) ?_
    refine lv_iload_n hx hb d_Inodes_takeBlock_21 rfl (lv_at hl 1 rfl) ?_
    refine lv_iconst (v := nI 1) hx hb d_Inodes_takeBlock_22 (by decide +kernel) ?_
    refine gz_isub hx hb d_Inodes_takeBlock_23 (by omega) ?_
    refine gz_roV (As := [.int (nI i), .int (nI ((iX L (dNow u) i) - 1))]) (rest := []) (wc := (wI g k L u)) ⟨hx, hb, hml, hown, hTB⟩ (c_Inodes_extentFirst l D g k L hL0 hL u i ((iX L (dNow u) i) - 1)) (cwV 2 hTB (gd_V k_376 k_377 k_378 k_54 k_379) rfl rfl rfl (by decide +kernel) ⟨Nat.le_of_ble_eq_true rfl, Nat.le_of_ble_eq_true rfl⟩) hK hP [0, 1, 2, 3, 4, 5, 6] rfl 0 rfl rfl rfl hl.1 rfl (Nat.le_of_ble_eq_true rfl) d_Inodes_takeBlock_24 ⟨Nat.zero_le _, Nat.zero_le _⟩ hS (fun H locs hP hS => ?_)
    have := xF_lt L (dNow u) i ((iX L (dNow u) i) - 1)
    refine lv_iload_n hx hb d_Inodes_takeBlock_27 rfl (lv_at hl 0 rfl) ?_
    refine gz_iadd hx hb d_Inodes_takeBlock_28 ?_
    refine lv_istore (lv' := [(4, .int (nI ((xF L (dNow u) i ((iX L (dNow u) i) - 1)) + (xL L (dNow u) i ((iX L (dNow u) i) - 1))))), (3, .int (nI (xL L (dNow u) i ((iX L (dNow u) i) - 1)))), (2, .int (nI (iX L (dNow u) i))), (0, .ref (g 6)), (1, .int (nI i))]) hx hb d_Inodes_takeBlock_29 hl (by decide) rfl (fun ls hl => ?_)
    refine lv_iload_n hx hb d_Inodes_takeBlock_31 rfl (lv_at hl 1 rfl) ?_
    refine lv_sipush (v := nI 255) hx hb d_Inodes_takeBlock_32 (by decide +kernel) ?_
    refine gz_icmp_ge (tgt := 80) hx hb d_Inodes_takeBlock_35 (by decide) (by omega) (by omega) (fun h35 => ?_) (fun h35 => ?_)
    · have hno : ¬ tkC L (dNow u) i := fun z => by have := z.2.1; omega
      refine lv_aload_n hx hb d_Inodes_takeBlock_80 rfl (lv_at hl 3 rfl) ?_
      refine va_get (D := D) (ci := 2) (v := .ref (g 0)) (C := R_Inodes) (T := T_Inodes) (N := 1) hx hb hTB in_Inodes hown hK hP 0 rfl rfl 0 (by decide) (hTB _ k_122) (fun _ h9 => h9) rfl d_Inodes_takeBlock_81 ?_
      refine gz_roV (As := []) (rest := []) (wc := (wD g k L u)) ⟨hx, hb, hml, hown, hTB⟩ (c_Disk_leastFree l D g k L hL0 hL u) (cwV 0 hTB (gd_V k_408 k_409 k_410 k_52 k_411) rfl rfl rfl (by decide +kernel) ⟨Nat.le_of_ble_eq_true rfl, Nat.le_of_ble_eq_true rfl⟩) hK hP [1, 2, 3, 4, 5, 6] rfl 1 rfl rfl rfl hl.1 rfl (Nat.le_of_ble_eq_true rfl) d_Inodes_takeBlock_84 ⟨Nat.zero_le _, Nat.zero_le _⟩ hS (fun H locs hP hS => ?_)
      refine lv_istore_n (lv' := [(3, .int (lfr L (dNow u))), (4, .int (nI ((xF L (dNow u) i ((iX L (dNow u) i) - 1)) + (xL L (dNow u) i ((iX L (dNow u) i) - 1))))), (2, .int (nI (iX L (dNow u) i))), (0, .ref (g 6)), (1, .int (nI i))]) hx hb d_Inodes_takeBlock_87 rfl hl (by decide) rfl (fun ls hl => ?_)
      refine lv_iload_n hx hb d_Inodes_takeBlock_88 rfl (lv_at hl 0 rfl) ?_
      refine lv_iconst (v := (-1)) hx hb d_Inodes_takeBlock_89 (by decide +kernel) ?_
      refine lv_icmp_eq (tgt := 99) hx hb d_Inodes_takeBlock_90 (by decide) (fun h90 => ?_) (fun h90 => ?_)
      · refine lv_iconst (v := nI 0) hx hb d_Inodes_takeBlock_99 (by decide +kernel) ?_
        have hP9 : va_P D cl5 (wI g k L ((tkI L u i).2)) H := (by rw [tkI_n hno (by first | exact Or.inl h90 | exact Or.inr h96)]; exact hP)
        have hD9 : va_D A (wI g k L ((tkI L u i).2)) := (by rw [tkI_n hno (by first | exact Or.inl h90 | exact Or.inr h96)]; exact hD)
        exact W.zret (v := nI 0) (ty := .boolean) hx hb hr (by decide +kernel) (fun tt9 ht9 hW9 => ⟨⟨_, (), rfl, (by rw [tkI_n hno (by first | exact Or.inl h90 | exact Or.inr h96)]; rfl), ⟨by rw [ht9]; exact hP9, hD9⟩⟩, hS.F ht9⟩) hS.2.2 d_Inodes_takeBlock_100
      · refine lv_iload_n hx hb d_Inodes_takeBlock_93 rfl (lv_at hl 2 rfl) ?_
        refine lv_bipush (v := nI 8) hx hb d_Inodes_takeBlock_94 (by decide +kernel) ?_
        refine gz_icmp_lt (tgt := 101) hx hb d_Inodes_takeBlock_96 (by decide) (by omega) (by omega) (fun h96 => ?_) (fun h96 => ?_)
        · refine lv_aload_n hx hb d_Inodes_takeBlock_101 rfl (lv_at hl 3 rfl) ?_
          refine va_get (D := D) (ci := 2) (v := .ref (g 0)) (C := R_Inodes) (T := T_Inodes) (N := 1) hx hb hTB in_Inodes hown hK hP 0 rfl rfl 0 (by decide) (hTB _ k_122) (fun _ h9 => h9) rfl d_Inodes_takeBlock_102 ?_
          refine lv_iload_n hx hb d_Inodes_takeBlock_105 rfl (lv_at hl 0 rfl) ?_
          refine gz_muV (As := [.int (lfr L (dNow u))]) (rest := []) (wc := (wD g k L u)) (w1 := (wD g k L (tkB L u (lfr L (dNow u))))) (wr := (hI g)) ⟨hx, hb, hml, hown, hTB⟩ (c_Disk_takeBlock l D g k L hL0 hL u (lfr L (dNow u))) (cwV 1 hTB (gd_V k_404 k_405 k_406 k_52 k_407) rfl rfl rfl (by decide +kernel) ⟨Nat.le_of_ble_eq_true rfl, Nat.le_of_ble_eq_true rfl⟩) hK hP hD hA [1, 2, 3, 4, 5, 6] [0] rfl rfl (by decide) rfl (by decide) (by decide) 1 rfl rfl rfl hl.1 rfl (Nat.le_of_ble_eq_true rfl) d_Inodes_takeBlock_106 ⟨Nat.zero_le _, Nat.zero_le _⟩ hS (fun H locs hP hD hS => ?_)
          have hP : va_P D cl5 (wI g k L (tkB L u (lfr L (dNow u)))) H := hP
          have hD : va_D A (wI g k L (tkB L u (lfr L (dNow u)))) := hD
          refine lv_aload_n hx hb d_Inodes_takeBlock_109 rfl (lv_at hl 3 rfl) ?_
          refine va_get (D := D) (ci := 2) (v := .ref (g 0)) (C := R_Inodes) (T := T_Inodes) (N := 1) hx hb hTB in_Inodes hown hK hP 0 rfl rfl 0 (by decide) (hTB _ k_122) (fun _ h9 => h9) rfl d_Inodes_takeBlock_110 ?_
          refine lv_iload_n hx hb d_Inodes_takeBlock_113 rfl (lv_at hl 4 rfl) ?_
          refine gz_roS (As := [.int (nI i)]) (rest := [.ref (g 0)]) ⟨hx, hb, hml, hown, hTB⟩ (c_Inodes_inodePlace l i) (cwS 1 hTB (gd_S k_147 k_148 k_54 k_149) rfl rfl rfl (by decide +kernel) ⟨Nat.le_of_ble_eq_true rfl, Nat.le_of_ble_eq_true rfl⟩) hP rfl hl.1 rfl (Nat.le_of_ble_eq_true rfl) d_Inodes_takeBlock_114 ⟨Nat.zero_le _, Nat.zero_le _⟩ hS (fun H locs hP hS => ?_)
          refine lv_iconst (v := nI 1) hx hb d_Inodes_takeBlock_117 (by decide +kernel) ?_
          refine gz_iadd hx hb d_Inodes_takeBlock_118 ?_
          refine lv_iload_n hx hb d_Inodes_takeBlock_119 rfl (lv_at hl 2 rfl) ?_
          refine lv_iconst (v := nI 1) hx hb d_Inodes_takeBlock_120 (by decide +kernel) ?_
          refine gz_iadd hx hb d_Inodes_takeBlock_121 ?_
          refine gz_muV (As := [.int (nI ((1600 + 32 * i) + 1)), .int (nI ((iX L (dNow u) i) + 1))]) (rest := []) (wc := (wD g k L (tkB L u (lfr L (dNow u))))) (w1 := (wD g k L (setB L (tkB L u (lfr L (dNow u))) (nI ((1600 + 32 * i) + 1)) (nI ((iX L (dNow u) i) + 1))))) (wr := (hI g)) ⟨hx, hb, hml, hown, hTB⟩ (c_Disk_setByte l D g k L hL0 hL (tkB L u (lfr L (dNow u))) (nI ((1600 + 32 * i) + 1)) (nI ((iX L (dNow u) i) + 1))) (cwV 2 hTB (gd_V k_150 k_151 k_152 k_52 k_153) rfl rfl rfl (by decide +kernel) ⟨Nat.le_of_ble_eq_true rfl, Nat.le_of_ble_eq_true rfl⟩) hK hP hD hA [1, 2, 3, 4, 5, 6] [0] rfl rfl (by decide) rfl (by decide) (by decide) 1 rfl rfl rfl hl.1 rfl (Nat.le_of_ble_eq_true rfl) d_Inodes_takeBlock_122 ⟨Nat.zero_le _, Nat.zero_le _⟩ hS (fun H locs hP hD hS => ?_)
          have hP : va_P D cl5 (wI g k L (setB L (tkB L u (lfr L (dNow u))) (nI ((1600 + 32 * i) + 1)) (nI ((iX L (dNow u) i) + 1)))) H := hP
          have hD : va_D A (wI g k L (setB L (tkB L u (lfr L (dNow u))) (nI ((1600 + 32 * i) + 1)) (nI ((iX L (dNow u) i) + 1)))) := hD
          refine lv_aload_n hx hb d_Inodes_takeBlock_125 rfl (lv_at hl 3 rfl) ?_
          refine va_get (D := D) (ci := 2) (v := .ref (g 0)) (C := R_Inodes) (T := T_Inodes) (N := 1) hx hb hTB in_Inodes hown hK hP 0 rfl rfl 0 (by decide) (hTB _ k_122) (fun _ h9 => h9) rfl d_Inodes_takeBlock_126 ?_
          refine lv_iload_n hx hb d_Inodes_takeBlock_129 rfl (lv_at hl 4 rfl) ?_
          refine lv_iload_n hx hb d_Inodes_takeBlock_130 rfl (lv_at hl 2 rfl) ?_
          refine gz_roS (As := [.int (nI i), .int (nI (iX L (dNow u) i))]) (rest := [.ref (g 0)]) ⟨hx, hb, hml, hown, hTB⟩ (c_Inodes_extentPlace l i (iX L (dNow u) i)) (cwS 2 hTB (gd_S k_373 k_374 k_54 k_375) rfl rfl rfl (by decide +kernel) ⟨Nat.le_of_ble_eq_true rfl, Nat.le_of_ble_eq_true rfl⟩) hP rfl hl.1 rfl (Nat.le_of_ble_eq_true rfl) d_Inodes_takeBlock_131 ⟨Nat.zero_le _, Nat.zero_le _⟩ hS (fun H locs hP hS => ?_)
          refine lv_iload_n hx hb d_Inodes_takeBlock_134 rfl (lv_at hl 0 rfl) ?_
          refine gz_muV (As := [.int (nI (1600 + 32 * i + 4 + 3 * (iX L (dNow u) i))), .int (lfr L (dNow u))]) (rest := []) (wc := (wD g k L (setB L (tkB L u (lfr L (dNow u))) (nI ((1600 + 32 * i) + 1)) (nI ((iX L (dNow u) i) + 1))))) (w1 := (wD g k L (setP L (setB L (tkB L u (lfr L (dNow u))) (nI ((1600 + 32 * i) + 1)) (nI ((iX L (dNow u) i) + 1))) (nI (1600 + 32 * i + 4 + 3 * (iX L (dNow u) i))) (lfr L (dNow u))))) (wr := (hI g)) ⟨hx, hb, hml, hown, hTB⟩ (c_Disk_setPair l D g k L hL0 hL (setB L (tkB L u (lfr L (dNow u))) (nI ((1600 + 32 * i) + 1)) (nI ((iX L (dNow u) i) + 1))) (nI (1600 + 32 * i + 4 + 3 * (iX L (dNow u) i))) (lfr L (dNow u))) (cwV 2 hTB (gd_V k_412 k_413 k_414 k_52 k_415) rfl rfl rfl (by decide +kernel) ⟨Nat.le_of_ble_eq_true rfl, Nat.le_of_ble_eq_true rfl⟩) hK hP hD hA [1, 2, 3, 4, 5, 6] [0] rfl rfl (by decide) rfl (by decide) (by decide) 1 rfl rfl rfl hl.1 rfl (Nat.le_of_ble_eq_true rfl) d_Inodes_takeBlock_135 ⟨Nat.zero_le _, Nat.zero_le _⟩ hS (fun H locs hP hD hS => ?_)
          have hP : va_P D cl5 (wI g k L (setP L (setB L (tkB L u (lfr L (dNow u))) (nI ((1600 + 32 * i) + 1)) (nI ((iX L (dNow u) i) + 1))) (nI (1600 + 32 * i + 4 + 3 * (iX L (dNow u) i))) (lfr L (dNow u)))) H := hP
          have hD : va_D A (wI g k L (setP L (setB L (tkB L u (lfr L (dNow u))) (nI ((1600 + 32 * i) + 1)) (nI ((iX L (dNow u) i) + 1))) (nI (1600 + 32 * i + 4 + 3 * (iX L (dNow u) i))) (lfr L (dNow u)))) := hD
          refine lv_aload_n hx hb d_Inodes_takeBlock_138 rfl (lv_at hl 3 rfl) ?_
          refine va_get (D := D) (ci := 2) (v := .ref (g 0)) (C := R_Inodes) (T := T_Inodes) (N := 1) hx hb hTB in_Inodes hown hK hP 0 rfl rfl 0 (by decide) (hTB _ k_122) (fun _ h9 => h9) rfl d_Inodes_takeBlock_139 ?_
          refine lv_iload_n hx hb d_Inodes_takeBlock_142 rfl (lv_at hl 4 rfl) ?_
          refine lv_iload_n hx hb d_Inodes_takeBlock_143 rfl (lv_at hl 2 rfl) ?_
          refine gz_roS (As := [.int (nI i), .int (nI (iX L (dNow u) i))]) (rest := [.ref (g 0)]) ⟨hx, hb, hml, hown, hTB⟩ (c_Inodes_extentPlace l i (iX L (dNow u) i)) (cwS 2 hTB (gd_S k_373 k_374 k_54 k_375) rfl rfl rfl (by decide +kernel) ⟨Nat.le_of_ble_eq_true rfl, Nat.le_of_ble_eq_true rfl⟩) hP rfl hl.1 rfl (Nat.le_of_ble_eq_true rfl) d_Inodes_takeBlock_144 ⟨Nat.zero_le _, Nat.zero_le _⟩ hS (fun H locs hP hS => ?_)
          refine lv_iconst (v := nI 2) hx hb d_Inodes_takeBlock_147 (by decide +kernel) ?_
          refine gz_iadd hx hb d_Inodes_takeBlock_148 ?_
          refine lv_iconst (v := nI 1) hx hb d_Inodes_takeBlock_149 (by decide +kernel) ?_
          refine gz_muV (As := [.int (nI ((1600 + 32 * i + 4 + 3 * (iX L (dNow u) i)) + 2)), .int (nI 1)]) (rest := []) (wc := (wD g k L (setP L (setB L (tkB L u (lfr L (dNow u))) (nI ((1600 + 32 * i) + 1)) (nI ((iX L (dNow u) i) + 1))) (nI (1600 + 32 * i + 4 + 3 * (iX L (dNow u) i))) (lfr L (dNow u))))) (w1 := (wD g k L (setB L (setP L (setB L (tkB L u (lfr L (dNow u))) (nI ((1600 + 32 * i) + 1)) (nI ((iX L (dNow u) i) + 1))) (nI (1600 + 32 * i + 4 + 3 * (iX L (dNow u) i))) (lfr L (dNow u))) (nI ((1600 + 32 * i + 4 + 3 * (iX L (dNow u) i)) + 2)) (nI 1)))) (wr := (hI g)) ⟨hx, hb, hml, hown, hTB⟩ (c_Disk_setByte l D g k L hL0 hL (setP L (setB L (tkB L u (lfr L (dNow u))) (nI ((1600 + 32 * i) + 1)) (nI ((iX L (dNow u) i) + 1))) (nI (1600 + 32 * i + 4 + 3 * (iX L (dNow u) i))) (lfr L (dNow u))) (nI ((1600 + 32 * i + 4 + 3 * (iX L (dNow u) i)) + 2)) (nI 1)) (cwV 2 hTB (gd_V k_150 k_151 k_152 k_52 k_153) rfl rfl rfl (by decide +kernel) ⟨Nat.le_of_ble_eq_true rfl, Nat.le_of_ble_eq_true rfl⟩) hK hP hD hA [1, 2, 3, 4, 5, 6] [0] rfl rfl (by decide) rfl (by decide) (by decide) 1 rfl rfl rfl hl.1 rfl (Nat.le_of_ble_eq_true rfl) d_Inodes_takeBlock_150 ⟨Nat.zero_le _, Nat.zero_le _⟩ hS (fun H locs hP hD hS => ?_)
          have hP : va_P D cl5 (wI g k L (setB L (setP L (setB L (tkB L u (lfr L (dNow u))) (nI ((1600 + 32 * i) + 1)) (nI ((iX L (dNow u) i) + 1))) (nI (1600 + 32 * i + 4 + 3 * (iX L (dNow u) i))) (lfr L (dNow u))) (nI ((1600 + 32 * i + 4 + 3 * (iX L (dNow u) i)) + 2)) (nI 1))) H := hP
          have hD : va_D A (wI g k L (setB L (setP L (setB L (tkB L u (lfr L (dNow u))) (nI ((1600 + 32 * i) + 1)) (nI ((iX L (dNow u) i) + 1))) (nI (1600 + 32 * i + 4 + 3 * (iX L (dNow u) i))) (lfr L (dNow u))) (nI ((1600 + 32 * i + 4 + 3 * (iX L (dNow u) i)) + 2)) (nI 1))) := hD
          refine lv_iconst (v := nI 1) hx hb d_Inodes_takeBlock_153 (by decide +kernel) ?_
          have hP9 : va_P D cl5 (wI g k L ((tkI L u i).2)) H := (by rw [tkI_l hno h90 h96]; exact hP)
          have hD9 : va_D A (wI g k L ((tkI L u i).2)) := (by rw [tkI_l hno h90 h96]; exact hD)
          exact W.zret (v := nI 1) (ty := .boolean) hx hb hr (by decide +kernel) (fun tt9 ht9 hW9 => ⟨⟨_, (), rfl, (by rw [tkI_l hno h90 h96]; rfl), ⟨by rw [ht9]; exact hP9, hD9⟩⟩, hS.F ht9⟩) hS.2.2 d_Inodes_takeBlock_154
        · refine lv_iconst (v := nI 0) hx hb d_Inodes_takeBlock_99 (by decide +kernel) ?_
          have hP9 : va_P D cl5 (wI g k L ((tkI L u i).2)) H := (by rw [tkI_n hno (by first | exact Or.inl h90 | exact Or.inr h96)]; exact hP)
          have hD9 : va_D A (wI g k L ((tkI L u i).2)) := (by rw [tkI_n hno (by first | exact Or.inl h90 | exact Or.inr h96)]; exact hD)
          exact W.zret (v := nI 0) (ty := .boolean) hx hb hr (by decide +kernel) (fun tt9 ht9 hW9 => ⟨⟨_, (), rfl, (by rw [tkI_n hno (by first | exact Or.inl h90 | exact Or.inr h96)]; rfl), ⟨by rw [ht9]; exact hP9, hD9⟩⟩, hS.F ht9⟩) hS.2.2 d_Inodes_takeBlock_100
    · refine lv_aload_n hx hb d_Inodes_takeBlock_38 rfl (lv_at hl 3 rfl) ?_
      refine va_get (D := D) (ci := 2) (v := .ref (g 0)) (C := R_Inodes) (T := T_Inodes) (N := 1) hx hb hTB in_Inodes hown hK hP 0 rfl rfl 0 (by decide) (hTB _ k_122) (fun _ h9 => h9) rfl d_Inodes_takeBlock_39 ?_
      refine lv_iload hx hb d_Inodes_takeBlock_42 (lv_at hl 0 rfl) ?_
      refine gz_roV (As := [.int (nI ((xF L (dNow u) i ((iX L (dNow u) i) - 1)) + (xL L (dNow u) i ((iX L (dNow u) i) - 1))))]) (rest := []) (wc := (wD g k L u)) ⟨hx, hb, hml, hown, hTB⟩ (c_Disk_isFree l D g k L hL0 hL u (nI ((xF L (dNow u) i ((iX L (dNow u) i) - 1)) + (xL L (dNow u) i ((iX L (dNow u) i) - 1))))) (cwV 1 hTB (gd_V k_403 k_176 k_177 k_52 k_178) rfl rfl rfl (by decide +kernel) ⟨Nat.le_of_ble_eq_true rfl, Nat.le_of_ble_eq_true rfl⟩) hK hP [1, 2, 3, 4, 5, 6] rfl 1 rfl rfl rfl hl.1 rfl (Nat.le_of_ble_eq_true rfl) d_Inodes_takeBlock_44 ⟨Nat.zero_le _, Nat.zero_le _⟩ hS (fun H locs hP hS => ?_)
      refine gz_ifz_eq (tgt := 80) hx hb d_Inodes_takeBlock_47 (by decide) (fun h47 => ?_) (fun h47 => ?_)
      · have hno : ¬ tkC L (dNow u) i := fun z => by rw [z.2.2] at h47; cases h47
        refine lv_aload_n hx hb d_Inodes_takeBlock_80 rfl (lv_at hl 3 rfl) ?_
        refine va_get (D := D) (ci := 2) (v := .ref (g 0)) (C := R_Inodes) (T := T_Inodes) (N := 1) hx hb hTB in_Inodes hown hK hP 0 rfl rfl 0 (by decide) (hTB _ k_122) (fun _ h9 => h9) rfl d_Inodes_takeBlock_81 ?_
        refine gz_roV (As := []) (rest := []) (wc := (wD g k L u)) ⟨hx, hb, hml, hown, hTB⟩ (c_Disk_leastFree l D g k L hL0 hL u) (cwV 0 hTB (gd_V k_408 k_409 k_410 k_52 k_411) rfl rfl rfl (by decide +kernel) ⟨Nat.le_of_ble_eq_true rfl, Nat.le_of_ble_eq_true rfl⟩) hK hP [1, 2, 3, 4, 5, 6] rfl 1 rfl rfl rfl hl.1 rfl (Nat.le_of_ble_eq_true rfl) d_Inodes_takeBlock_84 ⟨Nat.zero_le _, Nat.zero_le _⟩ hS (fun H locs hP hS => ?_)
        refine lv_istore_n (lv' := [(3, .int (lfr L (dNow u))), (4, .int (nI ((xF L (dNow u) i ((iX L (dNow u) i) - 1)) + (xL L (dNow u) i ((iX L (dNow u) i) - 1))))), (2, .int (nI (iX L (dNow u) i))), (0, .ref (g 6)), (1, .int (nI i))]) hx hb d_Inodes_takeBlock_87 rfl hl (by decide) rfl (fun ls hl => ?_)
        refine lv_iload_n hx hb d_Inodes_takeBlock_88 rfl (lv_at hl 0 rfl) ?_
        refine lv_iconst (v := (-1)) hx hb d_Inodes_takeBlock_89 (by decide +kernel) ?_
        refine lv_icmp_eq (tgt := 99) hx hb d_Inodes_takeBlock_90 (by decide) (fun h90 => ?_) (fun h90 => ?_)
        · refine lv_iconst (v := nI 0) hx hb d_Inodes_takeBlock_99 (by decide +kernel) ?_
          have hP9 : va_P D cl5 (wI g k L ((tkI L u i).2)) H := (by rw [tkI_n hno (by first | exact Or.inl h90 | exact Or.inr h96)]; exact hP)
          have hD9 : va_D A (wI g k L ((tkI L u i).2)) := (by rw [tkI_n hno (by first | exact Or.inl h90 | exact Or.inr h96)]; exact hD)
          exact W.zret (v := nI 0) (ty := .boolean) hx hb hr (by decide +kernel) (fun tt9 ht9 hW9 => ⟨⟨_, (), rfl, (by rw [tkI_n hno (by first | exact Or.inl h90 | exact Or.inr h96)]; rfl), ⟨by rw [ht9]; exact hP9, hD9⟩⟩, hS.F ht9⟩) hS.2.2 d_Inodes_takeBlock_100
        · refine lv_iload_n hx hb d_Inodes_takeBlock_93 rfl (lv_at hl 2 rfl) ?_
          refine lv_bipush (v := nI 8) hx hb d_Inodes_takeBlock_94 (by decide +kernel) ?_
          refine gz_icmp_lt (tgt := 101) hx hb d_Inodes_takeBlock_96 (by decide) (by omega) (by omega) (fun h96 => ?_) (fun h96 => ?_)
          · refine lv_aload_n hx hb d_Inodes_takeBlock_101 rfl (lv_at hl 3 rfl) ?_
            refine va_get (D := D) (ci := 2) (v := .ref (g 0)) (C := R_Inodes) (T := T_Inodes) (N := 1) hx hb hTB in_Inodes hown hK hP 0 rfl rfl 0 (by decide) (hTB _ k_122) (fun _ h9 => h9) rfl d_Inodes_takeBlock_102 ?_
            refine lv_iload_n hx hb d_Inodes_takeBlock_105 rfl (lv_at hl 0 rfl) ?_
            refine gz_muV (As := [.int (lfr L (dNow u))]) (rest := []) (wc := (wD g k L u)) (w1 := (wD g k L (tkB L u (lfr L (dNow u))))) (wr := (hI g)) ⟨hx, hb, hml, hown, hTB⟩ (c_Disk_takeBlock l D g k L hL0 hL u (lfr L (dNow u))) (cwV 1 hTB (gd_V k_404 k_405 k_406 k_52 k_407) rfl rfl rfl (by decide +kernel) ⟨Nat.le_of_ble_eq_true rfl, Nat.le_of_ble_eq_true rfl⟩) hK hP hD hA [1, 2, 3, 4, 5, 6] [0] rfl rfl (by decide) rfl (by decide) (by decide) 1 rfl rfl rfl hl.1 rfl (Nat.le_of_ble_eq_true rfl) d_Inodes_takeBlock_106 ⟨Nat.zero_le _, Nat.zero_le _⟩ hS (fun H locs hP hD hS => ?_)
            have hP : va_P D cl5 (wI g k L (tkB L u (lfr L (dNow u)))) H := hP
            have hD : va_D A (wI g k L (tkB L u (lfr L (dNow u)))) := hD
            refine lv_aload_n hx hb d_Inodes_takeBlock_109 rfl (lv_at hl 3 rfl) ?_
            refine va_get (D := D) (ci := 2) (v := .ref (g 0)) (C := R_Inodes) (T := T_Inodes) (N := 1) hx hb hTB in_Inodes hown hK hP 0 rfl rfl 0 (by decide) (hTB _ k_122) (fun _ h9 => h9) rfl d_Inodes_takeBlock_110 ?_
            refine lv_iload_n hx hb d_Inodes_takeBlock_113 rfl (lv_at hl 4 rfl) ?_
            refine gz_roS (As := [.int (nI i)]) (rest := [.ref (g 0)]) ⟨hx, hb, hml, hown, hTB⟩ (c_Inodes_inodePlace l i) (cwS 1 hTB (gd_S k_147 k_148 k_54 k_149) rfl rfl rfl (by decide +kernel) ⟨Nat.le_of_ble_eq_true rfl, Nat.le_of_ble_eq_true rfl⟩) hP rfl hl.1 rfl (Nat.le_of_ble_eq_true rfl) d_Inodes_takeBlock_114 ⟨Nat.zero_le _, Nat.zero_le _⟩ hS (fun H locs hP hS => ?_)
            refine lv_iconst (v := nI 1) hx hb d_Inodes_takeBlock_117 (by decide +kernel) ?_
            refine gz_iadd hx hb d_Inodes_takeBlock_118 ?_
            refine lv_iload_n hx hb d_Inodes_takeBlock_119 rfl (lv_at hl 2 rfl) ?_
            refine lv_iconst (v := nI 1) hx hb d_Inodes_takeBlock_120 (by decide +kernel) ?_
            refine gz_iadd hx hb d_Inodes_takeBlock_121 ?_
            refine gz_muV (As := [.int (nI ((1600 + 32 * i) + 1)), .int (nI ((iX L (dNow u) i) + 1))]) (rest := []) (wc := (wD g k L (tkB L u (lfr L (dNow u))))) (w1 := (wD g k L (setB L (tkB L u (lfr L (dNow u))) (nI ((1600 + 32 * i) + 1)) (nI ((iX L (dNow u) i) + 1))))) (wr := (hI g)) ⟨hx, hb, hml, hown, hTB⟩ (c_Disk_setByte l D g k L hL0 hL (tkB L u (lfr L (dNow u))) (nI ((1600 + 32 * i) + 1)) (nI ((iX L (dNow u) i) + 1))) (cwV 2 hTB (gd_V k_150 k_151 k_152 k_52 k_153) rfl rfl rfl (by decide +kernel) ⟨Nat.le_of_ble_eq_true rfl, Nat.le_of_ble_eq_true rfl⟩) hK hP hD hA [1, 2, 3, 4, 5, 6] [0] rfl rfl (by decide) rfl (by decide) (by decide) 1 rfl rfl rfl hl.1 rfl (Nat.le_of_ble_eq_true rfl) d_Inodes_takeBlock_122 ⟨Nat.zero_le _, Nat.zero_le _⟩ hS (fun H locs hP hD hS => ?_)
            have hP : va_P D cl5 (wI g k L (setB L (tkB L u (lfr L (dNow u))) (nI ((1600 + 32 * i) + 1)) (nI ((iX L (dNow u) i) + 1)))) H := hP
            have hD : va_D A (wI g k L (setB L (tkB L u (lfr L (dNow u))) (nI ((1600 + 32 * i) + 1)) (nI ((iX L (dNow u) i) + 1)))) := hD
            refine lv_aload_n hx hb d_Inodes_takeBlock_125 rfl (lv_at hl 3 rfl) ?_
            refine va_get (D := D) (ci := 2) (v := .ref (g 0)) (C := R_Inodes) (T := T_Inodes) (N := 1) hx hb hTB in_Inodes hown hK hP 0 rfl rfl 0 (by decide) (hTB _ k_122) (fun _ h9 => h9) rfl d_Inodes_takeBlock_126 ?_
            refine lv_iload_n hx hb d_Inodes_takeBlock_129 rfl (lv_at hl 4 rfl) ?_
            refine lv_iload_n hx hb d_Inodes_takeBlock_130 rfl (lv_at hl 2 rfl) ?_
            refine gz_roS (As := [.int (nI i), .int (nI (iX L (dNow u) i))]) (rest := [.ref (g 0)]) ⟨hx, hb, hml, hown, hTB⟩ (c_Inodes_extentPlace l i (iX L (dNow u) i)) (cwS 2 hTB (gd_S k_373 k_374 k_54 k_375) rfl rfl rfl (by decide +kernel) ⟨Nat.le_of_ble_eq_true rfl, Nat.le_of_ble_eq_true rfl⟩) hP rfl hl.1 rfl (Nat.le_of_ble_eq_true rfl) d_Inodes_takeBlock_131 ⟨Nat.zero_le _, Nat.zero_le _⟩ hS (fun H locs hP hS => ?_)
            refine lv_iload_n hx hb d_Inodes_takeBlock_134 rfl (lv_at hl 0 rfl) ?_
            refine gz_muV (As := [.int (nI (1600 + 32 * i + 4 + 3 * (iX L (dNow u) i))), .int (lfr L (dNow u))]) (rest := []) (wc := (wD g k L (setB L (tkB L u (lfr L (dNow u))) (nI ((1600 + 32 * i) + 1)) (nI ((iX L (dNow u) i) + 1))))) (w1 := (wD g k L (setP L (setB L (tkB L u (lfr L (dNow u))) (nI ((1600 + 32 * i) + 1)) (nI ((iX L (dNow u) i) + 1))) (nI (1600 + 32 * i + 4 + 3 * (iX L (dNow u) i))) (lfr L (dNow u))))) (wr := (hI g)) ⟨hx, hb, hml, hown, hTB⟩ (c_Disk_setPair l D g k L hL0 hL (setB L (tkB L u (lfr L (dNow u))) (nI ((1600 + 32 * i) + 1)) (nI ((iX L (dNow u) i) + 1))) (nI (1600 + 32 * i + 4 + 3 * (iX L (dNow u) i))) (lfr L (dNow u))) (cwV 2 hTB (gd_V k_412 k_413 k_414 k_52 k_415) rfl rfl rfl (by decide +kernel) ⟨Nat.le_of_ble_eq_true rfl, Nat.le_of_ble_eq_true rfl⟩) hK hP hD hA [1, 2, 3, 4, 5, 6] [0] rfl rfl (by decide) rfl (by decide) (by decide) 1 rfl rfl rfl hl.1 rfl (Nat.le_of_ble_eq_true rfl) d_Inodes_takeBlock_135 ⟨Nat.zero_le _, Nat.zero_le _⟩ hS (fun H locs hP hD hS => ?_)
            have hP : va_P D cl5 (wI g k L (setP L (setB L (tkB L u (lfr L (dNow u))) (nI ((1600 + 32 * i) + 1)) (nI ((iX L (dNow u) i) + 1))) (nI (1600 + 32 * i + 4 + 3 * (iX L (dNow u) i))) (lfr L (dNow u)))) H := hP
            have hD : va_D A (wI g k L (setP L (setB L (tkB L u (lfr L (dNow u))) (nI ((1600 + 32 * i) + 1)) (nI ((iX L (dNow u) i) + 1))) (nI (1600 + 32 * i + 4 + 3 * (iX L (dNow u) i))) (lfr L (dNow u)))) := hD
            refine lv_aload_n hx hb d_Inodes_takeBlock_138 rfl (lv_at hl 3 rfl) ?_
            refine va_get (D := D) (ci := 2) (v := .ref (g 0)) (C := R_Inodes) (T := T_Inodes) (N := 1) hx hb hTB in_Inodes hown hK hP 0 rfl rfl 0 (by decide) (hTB _ k_122) (fun _ h9 => h9) rfl d_Inodes_takeBlock_139 ?_
            refine lv_iload_n hx hb d_Inodes_takeBlock_142 rfl (lv_at hl 4 rfl) ?_
            refine lv_iload_n hx hb d_Inodes_takeBlock_143 rfl (lv_at hl 2 rfl) ?_
            refine gz_roS (As := [.int (nI i), .int (nI (iX L (dNow u) i))]) (rest := [.ref (g 0)]) ⟨hx, hb, hml, hown, hTB⟩ (c_Inodes_extentPlace l i (iX L (dNow u) i)) (cwS 2 hTB (gd_S k_373 k_374 k_54 k_375) rfl rfl rfl (by decide +kernel) ⟨Nat.le_of_ble_eq_true rfl, Nat.le_of_ble_eq_true rfl⟩) hP rfl hl.1 rfl (Nat.le_of_ble_eq_true rfl) d_Inodes_takeBlock_144 ⟨Nat.zero_le _, Nat.zero_le _⟩ hS (fun H locs hP hS => ?_)
            refine lv_iconst (v := nI 2) hx hb d_Inodes_takeBlock_147 (by decide +kernel) ?_
            refine gz_iadd hx hb d_Inodes_takeBlock_148 ?_
            refine lv_iconst (v := nI 1) hx hb d_Inodes_takeBlock_149 (by decide +kernel) ?_
            refine gz_muV (As := [.int (nI ((1600 + 32 * i + 4 + 3 * (iX L (dNow u) i)) + 2)), .int (nI 1)]) (rest := []) (wc := (wD g k L (setP L (setB L (tkB L u (lfr L (dNow u))) (nI ((1600 + 32 * i) + 1)) (nI ((iX L (dNow u) i) + 1))) (nI (1600 + 32 * i + 4 + 3 * (iX L (dNow u) i))) (lfr L (dNow u))))) (w1 := (wD g k L (setB L (setP L (setB L (tkB L u (lfr L (dNow u))) (nI ((1600 + 32 * i) + 1)) (nI ((iX L (dNow u) i) + 1))) (nI (1600 + 32 * i + 4 + 3 * (iX L (dNow u) i))) (lfr L (dNow u))) (nI ((1600 + 32 * i + 4 + 3 * (iX L (dNow u) i)) + 2)) (nI 1)))) (wr := (hI g)) ⟨hx, hb, hml, hown, hTB⟩ (c_Disk_setByte l D g k L hL0 hL (setP L (setB L (tkB L u (lfr L (dNow u))) (nI ((1600 + 32 * i) + 1)) (nI ((iX L (dNow u) i) + 1))) (nI (1600 + 32 * i + 4 + 3 * (iX L (dNow u) i))) (lfr L (dNow u))) (nI ((1600 + 32 * i + 4 + 3 * (iX L (dNow u) i)) + 2)) (nI 1)) (cwV 2 hTB (gd_V k_150 k_151 k_152 k_52 k_153) rfl rfl rfl (by decide +kernel) ⟨Nat.le_of_ble_eq_true rfl, Nat.le_of_ble_eq_true rfl⟩) hK hP hD hA [1, 2, 3, 4, 5, 6] [0] rfl rfl (by decide) rfl (by decide) (by decide) 1 rfl rfl rfl hl.1 rfl (Nat.le_of_ble_eq_true rfl) d_Inodes_takeBlock_150 ⟨Nat.zero_le _, Nat.zero_le _⟩ hS (fun H locs hP hD hS => ?_)
            have hP : va_P D cl5 (wI g k L (setB L (setP L (setB L (tkB L u (lfr L (dNow u))) (nI ((1600 + 32 * i) + 1)) (nI ((iX L (dNow u) i) + 1))) (nI (1600 + 32 * i + 4 + 3 * (iX L (dNow u) i))) (lfr L (dNow u))) (nI ((1600 + 32 * i + 4 + 3 * (iX L (dNow u) i)) + 2)) (nI 1))) H := hP
            have hD : va_D A (wI g k L (setB L (setP L (setB L (tkB L u (lfr L (dNow u))) (nI ((1600 + 32 * i) + 1)) (nI ((iX L (dNow u) i) + 1))) (nI (1600 + 32 * i + 4 + 3 * (iX L (dNow u) i))) (lfr L (dNow u))) (nI ((1600 + 32 * i + 4 + 3 * (iX L (dNow u) i)) + 2)) (nI 1))) := hD
            refine lv_iconst (v := nI 1) hx hb d_Inodes_takeBlock_153 (by decide +kernel) ?_
            have hP9 : va_P D cl5 (wI g k L ((tkI L u i).2)) H := (by rw [tkI_l hno h90 h96]; exact hP)
            have hD9 : va_D A (wI g k L ((tkI L u i).2)) := (by rw [tkI_l hno h90 h96]; exact hD)
            exact W.zret (v := nI 1) (ty := .boolean) hx hb hr (by decide +kernel) (fun tt9 ht9 hW9 => ⟨⟨_, (), rfl, (by rw [tkI_l hno h90 h96]; rfl), ⟨by rw [ht9]; exact hP9, hD9⟩⟩, hS.F ht9⟩) hS.2.2 d_Inodes_takeBlock_154
          · refine lv_iconst (v := nI 0) hx hb d_Inodes_takeBlock_99 (by decide +kernel) ?_
            have hP9 : va_P D cl5 (wI g k L ((tkI L u i).2)) H := (by rw [tkI_n hno (by first | exact Or.inl h90 | exact Or.inr h96)]; exact hP)
            have hD9 : va_D A (wI g k L ((tkI L u i).2)) := (by rw [tkI_n hno (by first | exact Or.inl h90 | exact Or.inr h96)]; exact hD)
            exact W.zret (v := nI 0) (ty := .boolean) hx hb hr (by decide +kernel) (fun tt9 ht9 hW9 => ⟨⟨_, (), rfl, (by rw [tkI_n hno (by first | exact Or.inl h90 | exact Or.inr h96)]; rfl), ⟨by rw [ht9]; exact hP9, hD9⟩⟩, hS.F ht9⟩) hS.2.2 d_Inodes_takeBlock_100
      · refine lv_aload_n hx hb d_Inodes_takeBlock_50 rfl (lv_at hl 3 rfl) ?_
        refine va_get (D := D) (ci := 2) (v := .ref (g 0)) (C := R_Inodes) (T := T_Inodes) (N := 1) hx hb hTB in_Inodes hown hK hP 0 rfl rfl 0 (by decide) (hTB _ k_122) (fun _ h9 => h9) rfl d_Inodes_takeBlock_51 ?_
        refine lv_iload hx hb d_Inodes_takeBlock_54 (lv_at hl 0 rfl) ?_
        refine gz_muV (As := [.int (nI ((xF L (dNow u) i ((iX L (dNow u) i) - 1)) + (xL L (dNow u) i ((iX L (dNow u) i) - 1))))]) (rest := []) (wc := (wD g k L u)) (w1 := (wD g k L (tkB L u (nI ((xF L (dNow u) i ((iX L (dNow u) i) - 1)) + (xL L (dNow u) i ((iX L (dNow u) i) - 1))))))) (wr := (hI g)) ⟨hx, hb, hml, hown, hTB⟩ (c_Disk_takeBlock l D g k L hL0 hL u (nI ((xF L (dNow u) i ((iX L (dNow u) i) - 1)) + (xL L (dNow u) i ((iX L (dNow u) i) - 1))))) (cwV 1 hTB (gd_V k_404 k_405 k_406 k_52 k_407) rfl rfl rfl (by decide +kernel) ⟨Nat.le_of_ble_eq_true rfl, Nat.le_of_ble_eq_true rfl⟩) hK hP hD hA [1, 2, 3, 4, 5, 6] [0] rfl rfl (by decide) rfl (by decide) (by decide) 1 rfl rfl rfl hl.1 rfl (Nat.le_of_ble_eq_true rfl) d_Inodes_takeBlock_56 ⟨Nat.zero_le _, Nat.zero_le _⟩ hS (fun H locs hP hD hS => ?_)
        have hP : va_P D cl5 (wI g k L (tkB L u (nI ((xF L (dNow u) i ((iX L (dNow u) i) - 1)) + (xL L (dNow u) i ((iX L (dNow u) i) - 1)))))) H := hP
        have hD : va_D A (wI g k L (tkB L u (nI ((xF L (dNow u) i ((iX L (dNow u) i) - 1)) + (xL L (dNow u) i ((iX L (dNow u) i) - 1)))))) := hD
        refine lv_aload_n hx hb d_Inodes_takeBlock_59 rfl (lv_at hl 3 rfl) ?_
        refine va_get (D := D) (ci := 2) (v := .ref (g 0)) (C := R_Inodes) (T := T_Inodes) (N := 1) hx hb hTB in_Inodes hown hK hP 0 rfl rfl 0 (by decide) (hTB _ k_122) (fun _ h9 => h9) rfl d_Inodes_takeBlock_60 ?_
        refine lv_iload_n hx hb d_Inodes_takeBlock_63 rfl (lv_at hl 4 rfl) ?_
        refine lv_iload_n hx hb d_Inodes_takeBlock_64 rfl (lv_at hl 2 rfl) ?_
        refine lv_iconst (v := nI 1) hx hb d_Inodes_takeBlock_65 (by decide +kernel) ?_
        refine gz_isub hx hb d_Inodes_takeBlock_66 (by omega) ?_
        refine gz_roS (As := [.int (nI i), .int (nI ((iX L (dNow u) i) - 1))]) (rest := [.ref (g 0)]) ⟨hx, hb, hml, hown, hTB⟩ (c_Inodes_extentPlace l i ((iX L (dNow u) i) - 1)) (cwS 2 hTB (gd_S k_373 k_374 k_54 k_375) rfl rfl rfl (by decide +kernel) ⟨Nat.le_of_ble_eq_true rfl, Nat.le_of_ble_eq_true rfl⟩) hP rfl hl.1 rfl (Nat.le_of_ble_eq_true rfl) d_Inodes_takeBlock_67 ⟨Nat.zero_le _, Nat.zero_le _⟩ hS (fun H locs hP hS => ?_)
        refine lv_iconst (v := nI 2) hx hb d_Inodes_takeBlock_70 (by decide +kernel) ?_
        refine gz_iadd hx hb d_Inodes_takeBlock_71 ?_
        refine lv_iload_n hx hb d_Inodes_takeBlock_72 rfl (lv_at hl 1 rfl) ?_
        refine lv_iconst (v := nI 1) hx hb d_Inodes_takeBlock_73 (by decide +kernel) ?_
        refine gz_iadd hx hb d_Inodes_takeBlock_74 ?_
        refine gz_muV (As := [.int (nI ((1600 + 32 * i + 4 + 3 * ((iX L (dNow u) i) - 1)) + 2)), .int (nI ((xL L (dNow u) i ((iX L (dNow u) i) - 1)) + 1))]) (rest := []) (wc := (wD g k L (tkB L u (nI ((xF L (dNow u) i ((iX L (dNow u) i) - 1)) + (xL L (dNow u) i ((iX L (dNow u) i) - 1))))))) (w1 := (wD g k L (setB L (tkB L u (nI ((xF L (dNow u) i ((iX L (dNow u) i) - 1)) + (xL L (dNow u) i ((iX L (dNow u) i) - 1))))) (nI ((1600 + 32 * i + 4 + 3 * ((iX L (dNow u) i) - 1)) + 2)) (nI ((xL L (dNow u) i ((iX L (dNow u) i) - 1)) + 1))))) (wr := (hI g)) ⟨hx, hb, hml, hown, hTB⟩ (c_Disk_setByte l D g k L hL0 hL (tkB L u (nI ((xF L (dNow u) i ((iX L (dNow u) i) - 1)) + (xL L (dNow u) i ((iX L (dNow u) i) - 1))))) (nI ((1600 + 32 * i + 4 + 3 * ((iX L (dNow u) i) - 1)) + 2)) (nI ((xL L (dNow u) i ((iX L (dNow u) i) - 1)) + 1))) (cwV 2 hTB (gd_V k_150 k_151 k_152 k_52 k_153) rfl rfl rfl (by decide +kernel) ⟨Nat.le_of_ble_eq_true rfl, Nat.le_of_ble_eq_true rfl⟩) hK hP hD hA [1, 2, 3, 4, 5, 6] [0] rfl rfl (by decide) rfl (by decide) (by decide) 1 rfl rfl rfl hl.1 rfl (Nat.le_of_ble_eq_true rfl) d_Inodes_takeBlock_75 ⟨Nat.zero_le _, Nat.zero_le _⟩ hS (fun H locs hP hD hS => ?_)
        have hP : va_P D cl5 (wI g k L (setB L (tkB L u (nI ((xF L (dNow u) i ((iX L (dNow u) i) - 1)) + (xL L (dNow u) i ((iX L (dNow u) i) - 1))))) (nI ((1600 + 32 * i + 4 + 3 * ((iX L (dNow u) i) - 1)) + 2)) (nI ((xL L (dNow u) i ((iX L (dNow u) i) - 1)) + 1)))) H := hP
        have hD : va_D A (wI g k L (setB L (tkB L u (nI ((xF L (dNow u) i ((iX L (dNow u) i) - 1)) + (xL L (dNow u) i ((iX L (dNow u) i) - 1))))) (nI ((1600 + 32 * i + 4 + 3 * ((iX L (dNow u) i) - 1)) + 2)) (nI ((xL L (dNow u) i ((iX L (dNow u) i) - 1)) + 1)))) := hD
        refine lv_iconst (v := nI 1) hx hb d_Inodes_takeBlock_78 (by decide +kernel) ?_
        have hP9 : va_P D cl5 (wI g k L ((tkI L u i).2)) H := (by rw [tkI_a ⟨h7, h35, h47⟩]; exact hP)
        have hD9 : va_D A (wI g k L ((tkI L u i).2)) := (by rw [tkI_a ⟨h7, h35, h47⟩]; exact hD)
        exact W.zret (v := nI 1) (ty := .boolean) hx hb hr (by decide +kernel) (fun tt9 ht9 hW9 => ⟨⟨_, (), rfl, (by rw [tkI_a ⟨h7, h35, h47⟩]; rfl), ⟨by rw [ht9]; exact hP9, hD9⟩⟩, hS.F ht9⟩) hS.2.2 d_Inodes_takeBlock_79
theorem d_Inodes_giveBlockBack_0 : decode b_Inodes_giveBlockBack 0 = .ok (.aload_n 0, 1) := by decide +kernel
theorem d_Inodes_giveBlockBack_1 : decode b_Inodes_giveBlockBack 1 = .ok (.iload_n 1, 1) := by decide +kernel
theorem d_Inodes_giveBlockBack_2 : decode b_Inodes_giveBlockBack 2 = .ok (.invokevirtual 67, 3) := by decide +kernel
theorem d_Inodes_giveBlockBack_5 : decode b_Inodes_giveBlockBack 5 = .ok (.iconst 1, 1) := by decide +kernel
theorem d_Inodes_giveBlockBack_6 : decode b_Inodes_giveBlockBack 6 = .ok (.isub, 1) := by decide +kernel
theorem d_Inodes_giveBlockBack_7 : decode b_Inodes_giveBlockBack 7 = .ok (.istore_n 2, 1) := by decide +kernel
theorem d_Inodes_giveBlockBack_8 : decode b_Inodes_giveBlockBack 8 = .ok (.iload_n 2, 1) := by decide +kernel
theorem d_Inodes_giveBlockBack_9 : decode b_Inodes_giveBlockBack 9 = .ok (.ifCond .ge 4, 3) := by decide +kernel
theorem d_Inodes_giveBlockBack_12 : decode b_Inodes_giveBlockBack 12 = .ok (.return_, 1) := by decide +kernel
theorem d_Inodes_giveBlockBack_13 : decode b_Inodes_giveBlockBack 13 = .ok (.aload_n 0, 1) := by decide +kernel
theorem d_Inodes_giveBlockBack_14 : decode b_Inodes_giveBlockBack 14 = .ok (.iload_n 1, 1) := by decide +kernel
theorem d_Inodes_giveBlockBack_15 : decode b_Inodes_giveBlockBack 15 = .ok (.iload_n 2, 1) := by decide +kernel
theorem d_Inodes_giveBlockBack_16 : decode b_Inodes_giveBlockBack 16 = .ok (.invokevirtual 70, 3) := by decide +kernel
theorem d_Inodes_giveBlockBack_19 : decode b_Inodes_giveBlockBack 19 = .ok (.istore_n 3, 1) := by decide +kernel
theorem d_Inodes_giveBlockBack_20 : decode b_Inodes_giveBlockBack 20 = .ok (.aload_n 0, 1) := by decide +kernel
theorem d_Inodes_giveBlockBack_21 : decode b_Inodes_giveBlockBack 21 = .ok (.getfield 9, 3) := by decide +kernel
theorem d_Inodes_giveBlockBack_24 : decode b_Inodes_giveBlockBack 24 = .ok (.aload_n 0, 1) := by decide +kernel
theorem d_Inodes_giveBlockBack_25 : decode b_Inodes_giveBlockBack 25 = .ok (.iload_n 1, 1) := by decide +kernel
theorem d_Inodes_giveBlockBack_26 : decode b_Inodes_giveBlockBack 26 = .ok (.iload_n 2, 1) := by decide +kernel
theorem d_Inodes_giveBlockBack_27 : decode b_Inodes_giveBlockBack 27 = .ok (.invokevirtual 73, 3) := by decide +kernel
theorem d_Inodes_giveBlockBack_30 : decode b_Inodes_giveBlockBack 30 = .ok (.iload_n 3, 1) := by decide +kernel
theorem d_Inodes_giveBlockBack_31 : decode b_Inodes_giveBlockBack 31 = .ok (.iadd, 1) := by decide +kernel
theorem d_Inodes_giveBlockBack_32 : decode b_Inodes_giveBlockBack 32 = .ok (.iconst 1, 1) := by decide +kernel
theorem d_Inodes_giveBlockBack_33 : decode b_Inodes_giveBlockBack 33 = .ok (.isub, 1) := by decide +kernel
theorem d_Inodes_giveBlockBack_34 : decode b_Inodes_giveBlockBack 34 = .ok (.invokevirtual 85, 3) := by decide +kernel
theorem d_Inodes_giveBlockBack_37 : decode b_Inodes_giveBlockBack 37 = .ok (.aload_n 0, 1) := by decide +kernel
theorem d_Inodes_giveBlockBack_38 : decode b_Inodes_giveBlockBack 38 = .ok (.getfield 9, 3) := by decide +kernel
theorem d_Inodes_giveBlockBack_41 : decode b_Inodes_giveBlockBack 41 = .ok (.iload_n 1, 1) := by decide +kernel
theorem d_Inodes_giveBlockBack_42 : decode b_Inodes_giveBlockBack 42 = .ok (.iload_n 2, 1) := by decide +kernel
theorem d_Inodes_giveBlockBack_43 : decode b_Inodes_giveBlockBack 43 = .ok (.invokestatic 27, 3) := by decide +kernel
theorem d_Inodes_giveBlockBack_46 : decode b_Inodes_giveBlockBack 46 = .ok (.iconst 2, 1) := by decide +kernel
theorem d_Inodes_giveBlockBack_47 : decode b_Inodes_giveBlockBack 47 = .ok (.iadd, 1) := by decide +kernel
theorem d_Inodes_giveBlockBack_48 : decode b_Inodes_giveBlockBack 48 = .ok (.iload_n 3, 1) := by decide +kernel
theorem d_Inodes_giveBlockBack_49 : decode b_Inodes_giveBlockBack 49 = .ok (.iconst 1, 1) := by decide +kernel
theorem d_Inodes_giveBlockBack_50 : decode b_Inodes_giveBlockBack 50 = .ok (.isub, 1) := by decide +kernel
theorem d_Inodes_giveBlockBack_51 : decode b_Inodes_giveBlockBack 51 = .ok (.invokevirtual 34, 3) := by decide +kernel
theorem d_Inodes_giveBlockBack_54 : decode b_Inodes_giveBlockBack 54 = .ok (.iload_n 3, 1) := by decide +kernel
theorem d_Inodes_giveBlockBack_55 : decode b_Inodes_giveBlockBack 55 = .ok (.iconst 1, 1) := by decide +kernel
theorem d_Inodes_giveBlockBack_56 : decode b_Inodes_giveBlockBack 56 = .ok (.if_icmp .ne 30, 3) := by decide +kernel
theorem d_Inodes_giveBlockBack_59 : decode b_Inodes_giveBlockBack 59 = .ok (.aload_n 0, 1) := by decide +kernel
theorem d_Inodes_giveBlockBack_60 : decode b_Inodes_giveBlockBack 60 = .ok (.getfield 9, 3) := by decide +kernel
theorem d_Inodes_giveBlockBack_63 : decode b_Inodes_giveBlockBack 63 = .ok (.iload_n 1, 1) := by decide +kernel
theorem d_Inodes_giveBlockBack_64 : decode b_Inodes_giveBlockBack 64 = .ok (.iload_n 2, 1) := by decide +kernel
theorem d_Inodes_giveBlockBack_65 : decode b_Inodes_giveBlockBack 65 = .ok (.invokestatic 27, 3) := by decide +kernel
theorem d_Inodes_giveBlockBack_68 : decode b_Inodes_giveBlockBack 68 = .ok (.iconst 0, 1) := by decide +kernel
theorem d_Inodes_giveBlockBack_69 : decode b_Inodes_giveBlockBack 69 = .ok (.invokevirtual 64, 3) := by decide +kernel
theorem d_Inodes_giveBlockBack_72 : decode b_Inodes_giveBlockBack 72 = .ok (.aload_n 0, 1) := by decide +kernel
theorem d_Inodes_giveBlockBack_73 : decode b_Inodes_giveBlockBack 73 = .ok (.getfield 9, 3) := by decide +kernel
theorem d_Inodes_giveBlockBack_76 : decode b_Inodes_giveBlockBack 76 = .ok (.iload_n 1, 1) := by decide +kernel
theorem d_Inodes_giveBlockBack_77 : decode b_Inodes_giveBlockBack 77 = .ok (.invokestatic 15, 3) := by decide +kernel
theorem d_Inodes_giveBlockBack_80 : decode b_Inodes_giveBlockBack 80 = .ok (.iconst 1, 1) := by decide +kernel
theorem d_Inodes_giveBlockBack_81 : decode b_Inodes_giveBlockBack 81 = .ok (.iadd, 1) := by decide +kernel
theorem d_Inodes_giveBlockBack_82 : decode b_Inodes_giveBlockBack 82 = .ok (.iload_n 2, 1) := by decide +kernel
theorem d_Inodes_giveBlockBack_83 : decode b_Inodes_giveBlockBack 83 = .ok (.invokevirtual 34, 3) := by decide +kernel
theorem d_Inodes_giveBlockBack_86 : decode b_Inodes_giveBlockBack 86 = .ok (.return_, 1) := by decide +kernel
set_option maxHeartbeats 4000000 in
set_option maxRecDepth 100000 in
theorem c_Inodes_giveBlockBack (l : Launch) (D : va_G) (g : Nat → Nat) (k : Nat → ClassId) (L : Nat) (hL0 : 96 ≤ L) (hL : L ≤ 768) (u : DSt) (i : Nat) : MuV l y_Inodes_giveBlockBack w_Inodes_giveBlockBack ({ frames := 4, cells := 0, slots := 0, locals := 128 }) [.ref (g 6), .int (nI i)] D cl5 (tyC k) (wI g k L u) (wI g k L (gvI L u i)) := by
  intro sz
  refine Met.ofW (cc := b_Inodes_giveBlockBack) (maxL := 4) (ret := none) (by decide) rfl ?_
  intro p e s m args below meth c s₁ B hml hv
  obtain ⟨rfl, hsz, hP, hK, hD0⟩ := hv
  have hx := B.exec
  have hb := B.bytes
  have hr := B.returns
  have hts := atoms_spec (ws := w_Inodes_giveBlockBack) B.pre
  have hTB : ∀ w ∈ lw_tb, w.before _ s = true := fun w h => hts w (List.mem_cons_of_mem _ h)
  have hown : s.vm.findClass R_Inodes = some m.cls := findClass_of_methodNamed B.named
  have hlocks := B.notSynchronized
  subst hsz
  have hD := hD0.self (sz := s.heap.size)
  generalize hAe : va_A (wI g k L u) s.heap.size = A at hD ⊢
  have hA : ∀ q : Nat, s.heap.size ≤ q → A q := fun q h => by rw [← hAe]; exact Or.inr h
  have hS : va_S A s.heap s.heap [] := va_S.rf
  have hl := lv_entry ([.ref (g 6), .int (nI i)]) (n := 4) (Nat.le_of_ble_eq_true rfl)
  rw [lg_entry_eq]
  generalize (lg_sl ([.ref (g 6), .int (nI i)]) ++ List.replicate (4 - (lg_sl ([.ref (g 6), .int (nI i)])).length) Slot.unset).toArray = ls at hl ⊢
  have hl : lv_has ls 4 [(0, .ref (g 6)), (1, .int (nI i))] := hl
  refine lv_aload_n hx hb d_Inodes_giveBlockBack_0 rfl (lv_at hl 0 rfl) ?_
  refine lv_iload_n hx hb d_Inodes_giveBlockBack_1 rfl (lv_at hl 1 rfl) ?_
  refine gz_roV (As := [.int (nI i)]) (rest := []) (wc := (wI g k L u)) ⟨hx, hb, hml, hown, hTB⟩ (c_Inodes_extents l D g k L hL0 hL u i) (cwV 1 hTB (gd_V k_365 k_366 k_367 k_54 k_368) rfl rfl rfl (by decide +kernel) ⟨Nat.le_of_ble_eq_true rfl, Nat.le_of_ble_eq_true rfl⟩) hK hP [0, 1, 2, 3, 4, 5, 6] rfl 0 rfl rfl rfl hl.1 rfl (Nat.le_of_ble_eq_true rfl) d_Inodes_giveBlockBack_2 ⟨Nat.zero_le _, Nat.zero_le _⟩ hS (fun H locs hP hS => ?_)
  have := iX_lt L (dNow u) i
  refine lv_iconst (v := nI 1) hx hb d_Inodes_giveBlockBack_5 (by decide +kernel) ?_
  refine lv_isub hx hb d_Inodes_giveBlockBack_6 ?_
  refine lv_istore_n (lv' := [(2, .int ((nI (iX L (dNow u) i)) - (nI 1))), (0, .ref (g 6)), (1, .int (nI i))]) hx hb d_Inodes_giveBlockBack_7 rfl hl (by decide) rfl (fun ls hl => ?_)
  refine lv_iload_n hx hb d_Inodes_giveBlockBack_8 rfl (lv_at hl 0 rfl) ?_
  refine lv_if_ge (tgt := 13) hx hb d_Inodes_giveBlockBack_9 (by decide) (fun h9 => ?_) (fun h9 => ?_)
  · have he : 1 ≤ iX L (dNow u) i := sub1_ge (by omega) h9
    have hl : lv_has ls 4 [(2, .int (nI (iX L (dNow u) i - 1))), (0, .ref (g 6)), (1, .int (nI i))] := by rw [← pk_sub he]; exact hl
    refine lv_aload_n hx hb d_Inodes_giveBlockBack_13 rfl (lv_at hl 1 rfl) ?_
    refine lv_iload_n hx hb d_Inodes_giveBlockBack_14 rfl (lv_at hl 2 rfl) ?_
    refine lv_iload_n hx hb d_Inodes_giveBlockBack_15 rfl (lv_at hl 0 rfl) ?_
    refine gz_roV (As := [.int (nI i), .int (nI (iX L (dNow u) i - 1))]) (rest := []) (wc := (wI g k L u)) ⟨hx, hb, hml, hown, hTB⟩ (c_Inodes_extentLength l D g k L hL0 hL u i (iX L (dNow u) i - 1)) (cwV 2 hTB (gd_V k_369 k_370 k_371 k_54 k_372) rfl rfl rfl (by decide +kernel) ⟨Nat.le_of_ble_eq_true rfl, Nat.le_of_ble_eq_true rfl⟩) hK hP [0, 1, 2, 3, 4, 5, 6] rfl 0 rfl rfl rfl hl.1 rfl (Nat.le_of_ble_eq_true rfl) d_Inodes_giveBlockBack_16 ⟨Nat.zero_le _, Nat.zero_le _⟩ hS (fun H locs hP hS => ?_)
    have := xL_lt L (dNow u) i (iX L (dNow u) i - 1)
    refine lv_istore_n (lv' := [(3, .int (nI (xL L (dNow u) i (iX L (dNow u) i - 1)))), (2, .int (nI (iX L (dNow u) i - 1))), (0, .ref (g 6)), (1, .int (nI i))]) hx hb d_Inodes_giveBlockBack_19 rfl hl (by decide) rfl (fun ls hl => ?_)
    refine lv_aload_n hx hb d_Inodes_giveBlockBack_20 rfl (lv_at hl 2 rfl) ?_
    refine va_get (D := D) (ci := 2) (v := .ref (g 0)) (C := R_Inodes) (T := T_Inodes) (N := 1) hx hb hTB in_Inodes hown hK hP 0 rfl rfl 0 (by decide) (hTB _ k_122) (fun _ h9 => h9) rfl d_Inodes_giveBlockBack_21 ?_
    refine lv_aload_n hx hb d_Inodes_giveBlockBack_24 rfl (lv_at hl 2 rfl) ?_
    refine lv_iload_n hx hb d_Inodes_giveBlockBack_25 rfl (lv_at hl 3 rfl) ?_
    refine lv_iload_n hx hb d_Inodes_giveBlockBack_26 rfl (lv_at hl 1 rfl) ?_
    refine gz_roV (As := [.int (nI i), .int (nI (iX L (dNow u) i - 1))]) (rest := [.ref (g 0)]) (wc := (wI g k L u)) ⟨hx, hb, hml, hown, hTB⟩ (c_Inodes_extentFirst l D g k L hL0 hL u i (iX L (dNow u) i - 1)) (cwV 2 hTB (gd_V k_376 k_377 k_378 k_54 k_379) rfl rfl rfl (by decide +kernel) ⟨Nat.le_of_ble_eq_true rfl, Nat.le_of_ble_eq_true rfl⟩) hK hP [0, 1, 2, 3, 4, 5, 6] rfl 0 rfl rfl rfl hl.1 rfl (Nat.le_of_ble_eq_true rfl) d_Inodes_giveBlockBack_27 ⟨Nat.zero_le _, Nat.zero_le _⟩ hS (fun H locs hP hS => ?_)
    have := xF_lt L (dNow u) i (iX L (dNow u) i - 1)
    refine lv_iload_n hx hb d_Inodes_giveBlockBack_30 rfl (lv_at hl 0 rfl) ?_
    refine gz_iadd hx hb d_Inodes_giveBlockBack_31 ?_
    refine lv_iconst (v := nI 1) hx hb d_Inodes_giveBlockBack_32 (by decide +kernel) ?_
    refine lv_isub hx hb d_Inodes_giveBlockBack_33 ?_
    refine gz_muV (As := [.int ((nI ((xF L (dNow u) i (iX L (dNow u) i - 1)) + (xL L (dNow u) i (iX L (dNow u) i - 1)))) - (nI 1))]) (rest := []) (wc := (wD g k L u)) (w1 := (wD g k L (gvB L u ((nI ((xF L (dNow u) i (iX L (dNow u) i - 1)) + (xL L (dNow u) i (iX L (dNow u) i - 1)))) - (nI 1))))) (wr := (hI g)) ⟨hx, hb, hml, hown, hTB⟩ (c_Disk_giveBlockBack l D g k L hL0 hL u ((nI ((xF L (dNow u) i (iX L (dNow u) i - 1)) + (xL L (dNow u) i (iX L (dNow u) i - 1)))) - (nI 1))) (cwV 1 hTB (gd_V k_421 k_422 k_423 k_52 k_424) rfl rfl rfl (by decide +kernel) ⟨Nat.le_of_ble_eq_true rfl, Nat.le_of_ble_eq_true rfl⟩) hK hP hD hA [1, 2, 3, 4, 5, 6] [0] rfl rfl (by decide) rfl (by decide) (by decide) 1 rfl rfl rfl hl.1 rfl (Nat.le_of_ble_eq_true rfl) d_Inodes_giveBlockBack_34 ⟨Nat.zero_le _, Nat.zero_le _⟩ hS (fun H locs hP hD hS => ?_)
    have hP : va_P D cl5 (wI g k L (gvB L u ((nI ((xF L (dNow u) i (iX L (dNow u) i - 1)) + (xL L (dNow u) i (iX L (dNow u) i - 1)))) - (nI 1)))) H := hP
    have hD : va_D A (wI g k L (gvB L u ((nI ((xF L (dNow u) i (iX L (dNow u) i - 1)) + (xL L (dNow u) i (iX L (dNow u) i - 1)))) - (nI 1)))) := hD
    refine lv_aload_n hx hb d_Inodes_giveBlockBack_37 rfl (lv_at hl 2 rfl) ?_
    refine va_get (D := D) (ci := 2) (v := .ref (g 0)) (C := R_Inodes) (T := T_Inodes) (N := 1) hx hb hTB in_Inodes hown hK hP 0 rfl rfl 0 (by decide) (hTB _ k_122) (fun _ h9 => h9) rfl d_Inodes_giveBlockBack_38 ?_
    refine lv_iload_n hx hb d_Inodes_giveBlockBack_41 rfl (lv_at hl 3 rfl) ?_
    refine lv_iload_n hx hb d_Inodes_giveBlockBack_42 rfl (lv_at hl 1 rfl) ?_
    refine gz_roS (As := [.int (nI i), .int (nI (iX L (dNow u) i - 1))]) (rest := [.ref (g 0)]) ⟨hx, hb, hml, hown, hTB⟩ (c_Inodes_extentPlace l i (iX L (dNow u) i - 1)) (cwS 2 hTB (gd_S k_373 k_374 k_54 k_375) rfl rfl rfl (by decide +kernel) ⟨Nat.le_of_ble_eq_true rfl, Nat.le_of_ble_eq_true rfl⟩) hP rfl hl.1 rfl (Nat.le_of_ble_eq_true rfl) d_Inodes_giveBlockBack_43 ⟨Nat.zero_le _, Nat.zero_le _⟩ hS (fun H locs hP hS => ?_)
    refine lv_iconst (v := nI 2) hx hb d_Inodes_giveBlockBack_46 (by decide +kernel) ?_
    refine gz_iadd hx hb d_Inodes_giveBlockBack_47 ?_
    refine lv_iload_n hx hb d_Inodes_giveBlockBack_48 rfl (lv_at hl 0 rfl) ?_
    refine lv_iconst (v := nI 1) hx hb d_Inodes_giveBlockBack_49 (by decide +kernel) ?_
    refine lv_isub hx hb d_Inodes_giveBlockBack_50 ?_
    refine gz_muV (As := [.int (nI ((1600 + 32 * i + 4 + 3 * (iX L (dNow u) i - 1)) + 2)), .int ((nI (xL L (dNow u) i (iX L (dNow u) i - 1))) - (nI 1))]) (rest := []) (wc := (wD g k L (gvB L u ((nI ((xF L (dNow u) i (iX L (dNow u) i - 1)) + (xL L (dNow u) i (iX L (dNow u) i - 1)))) - (nI 1))))) (w1 := (wD g k L (setB L (gvB L u ((nI ((xF L (dNow u) i (iX L (dNow u) i - 1)) + (xL L (dNow u) i (iX L (dNow u) i - 1)))) - (nI 1))) (nI ((1600 + 32 * i + 4 + 3 * (iX L (dNow u) i - 1)) + 2)) ((nI (xL L (dNow u) i (iX L (dNow u) i - 1))) - (nI 1))))) (wr := (hI g)) ⟨hx, hb, hml, hown, hTB⟩ (c_Disk_setByte l D g k L hL0 hL (gvB L u ((nI ((xF L (dNow u) i (iX L (dNow u) i - 1)) + (xL L (dNow u) i (iX L (dNow u) i - 1)))) - (nI 1))) (nI ((1600 + 32 * i + 4 + 3 * (iX L (dNow u) i - 1)) + 2)) ((nI (xL L (dNow u) i (iX L (dNow u) i - 1))) - (nI 1))) (cwV 2 hTB (gd_V k_150 k_151 k_152 k_52 k_153) rfl rfl rfl (by decide +kernel) ⟨Nat.le_of_ble_eq_true rfl, Nat.le_of_ble_eq_true rfl⟩) hK hP hD hA [1, 2, 3, 4, 5, 6] [0] rfl rfl (by decide) rfl (by decide) (by decide) 1 rfl rfl rfl hl.1 rfl (Nat.le_of_ble_eq_true rfl) d_Inodes_giveBlockBack_51 ⟨Nat.zero_le _, Nat.zero_le _⟩ hS (fun H locs hP hD hS => ?_)
    have hP : va_P D cl5 (wI g k L (setB L (gvB L u ((nI ((xF L (dNow u) i (iX L (dNow u) i - 1)) + (xL L (dNow u) i (iX L (dNow u) i - 1)))) - (nI 1))) (nI ((1600 + 32 * i + 4 + 3 * (iX L (dNow u) i - 1)) + 2)) ((nI (xL L (dNow u) i (iX L (dNow u) i - 1))) - (nI 1)))) H := hP
    have hD : va_D A (wI g k L (setB L (gvB L u ((nI ((xF L (dNow u) i (iX L (dNow u) i - 1)) + (xL L (dNow u) i (iX L (dNow u) i - 1)))) - (nI 1))) (nI ((1600 + 32 * i + 4 + 3 * (iX L (dNow u) i - 1)) + 2)) ((nI (xL L (dNow u) i (iX L (dNow u) i - 1))) - (nI 1)))) := hD
    refine lv_iload_n hx hb d_Inodes_giveBlockBack_54 rfl (lv_at hl 0 rfl) ?_
    refine lv_iconst (v := nI 1) hx hb d_Inodes_giveBlockBack_55 (by decide +kernel) ?_
    refine gz_icmp_ne (tgt := 86) hx hb d_Inodes_giveBlockBack_56 (by decide) (by omega) (by omega) (fun h56 => ?_) (fun h56 => ?_)
    · have hP9 : va_P D cl5 (wI g k L (gvI L u i)) H := (by rw [gvI_n he h56]; exact hP)
      have hD9 : va_D A (wI g k L (gvI L u i)) := (by rw [gvI_n he h56]; exact hD)
      exact W.vret hx hb hr (fun tt9 ht9 hW9 => ⟨⟨(), rfl, trivial, ⟨by rw [ht9]; exact hP9, hD9⟩⟩, hS.F ht9⟩) hS.2.2 d_Inodes_giveBlockBack_86
    · refine lv_aload_n hx hb d_Inodes_giveBlockBack_59 rfl (lv_at hl 2 rfl) ?_
      refine va_get (D := D) (ci := 2) (v := .ref (g 0)) (C := R_Inodes) (T := T_Inodes) (N := 1) hx hb hTB in_Inodes hown hK hP 0 rfl rfl 0 (by decide) (hTB _ k_122) (fun _ h9 => h9) rfl d_Inodes_giveBlockBack_60 ?_
      refine lv_iload_n hx hb d_Inodes_giveBlockBack_63 rfl (lv_at hl 3 rfl) ?_
      refine lv_iload_n hx hb d_Inodes_giveBlockBack_64 rfl (lv_at hl 1 rfl) ?_
      refine gz_roS (As := [.int (nI i), .int (nI (iX L (dNow u) i - 1))]) (rest := [.ref (g 0)]) ⟨hx, hb, hml, hown, hTB⟩ (c_Inodes_extentPlace l i (iX L (dNow u) i - 1)) (cwS 2 hTB (gd_S k_373 k_374 k_54 k_375) rfl rfl rfl (by decide +kernel) ⟨Nat.le_of_ble_eq_true rfl, Nat.le_of_ble_eq_true rfl⟩) hP rfl hl.1 rfl (Nat.le_of_ble_eq_true rfl) d_Inodes_giveBlockBack_65 ⟨Nat.zero_le _, Nat.zero_le _⟩ hS (fun H locs hP hS => ?_)
      refine lv_iconst (v := nI 0) hx hb d_Inodes_giveBlockBack_68 (by decide +kernel) ?_
      refine gz_muV (As := [.int (nI (1600 + 32 * i + 4 + 3 * (iX L (dNow u) i - 1))), .int (nI 0)]) (rest := []) (wc := (wD g k L (setB L (gvB L u ((nI ((xF L (dNow u) i (iX L (dNow u) i - 1)) + (xL L (dNow u) i (iX L (dNow u) i - 1)))) - (nI 1))) (nI ((1600 + 32 * i + 4 + 3 * (iX L (dNow u) i - 1)) + 2)) ((nI (xL L (dNow u) i (iX L (dNow u) i - 1))) - (nI 1))))) (w1 := (wD g k L (setP L (setB L (gvB L u ((nI ((xF L (dNow u) i (iX L (dNow u) i - 1)) + (xL L (dNow u) i (iX L (dNow u) i - 1)))) - (nI 1))) (nI ((1600 + 32 * i + 4 + 3 * (iX L (dNow u) i - 1)) + 2)) ((nI (xL L (dNow u) i (iX L (dNow u) i - 1))) - (nI 1))) (nI (1600 + 32 * i + 4 + 3 * (iX L (dNow u) i - 1))) (nI 0)))) (wr := (hI g)) ⟨hx, hb, hml, hown, hTB⟩ (c_Disk_setPair l D g k L hL0 hL (setB L (gvB L u ((nI ((xF L (dNow u) i (iX L (dNow u) i - 1)) + (xL L (dNow u) i (iX L (dNow u) i - 1)))) - (nI 1))) (nI ((1600 + 32 * i + 4 + 3 * (iX L (dNow u) i - 1)) + 2)) ((nI (xL L (dNow u) i (iX L (dNow u) i - 1))) - (nI 1))) (nI (1600 + 32 * i + 4 + 3 * (iX L (dNow u) i - 1))) (nI 0)) (cwV 2 hTB (gd_V k_412 k_413 k_414 k_52 k_415) rfl rfl rfl (by decide +kernel) ⟨Nat.le_of_ble_eq_true rfl, Nat.le_of_ble_eq_true rfl⟩) hK hP hD hA [1, 2, 3, 4, 5, 6] [0] rfl rfl (by decide) rfl (by decide) (by decide) 1 rfl rfl rfl hl.1 rfl (Nat.le_of_ble_eq_true rfl) d_Inodes_giveBlockBack_69 ⟨Nat.zero_le _, Nat.zero_le _⟩ hS (fun H locs hP hD hS => ?_)
      have hP : va_P D cl5 (wI g k L (setP L (setB L (gvB L u ((nI ((xF L (dNow u) i (iX L (dNow u) i - 1)) + (xL L (dNow u) i (iX L (dNow u) i - 1)))) - (nI 1))) (nI ((1600 + 32 * i + 4 + 3 * (iX L (dNow u) i - 1)) + 2)) ((nI (xL L (dNow u) i (iX L (dNow u) i - 1))) - (nI 1))) (nI (1600 + 32 * i + 4 + 3 * (iX L (dNow u) i - 1))) (nI 0))) H := hP
      have hD : va_D A (wI g k L (setP L (setB L (gvB L u ((nI ((xF L (dNow u) i (iX L (dNow u) i - 1)) + (xL L (dNow u) i (iX L (dNow u) i - 1)))) - (nI 1))) (nI ((1600 + 32 * i + 4 + 3 * (iX L (dNow u) i - 1)) + 2)) ((nI (xL L (dNow u) i (iX L (dNow u) i - 1))) - (nI 1))) (nI (1600 + 32 * i + 4 + 3 * (iX L (dNow u) i - 1))) (nI 0))) := hD
      refine lv_aload_n hx hb d_Inodes_giveBlockBack_72 rfl (lv_at hl 2 rfl) ?_
      refine va_get (D := D) (ci := 2) (v := .ref (g 0)) (C := R_Inodes) (T := T_Inodes) (N := 1) hx hb hTB in_Inodes hown hK hP 0 rfl rfl 0 (by decide) (hTB _ k_122) (fun _ h9 => h9) rfl d_Inodes_giveBlockBack_73 ?_
      refine lv_iload_n hx hb d_Inodes_giveBlockBack_76 rfl (lv_at hl 3 rfl) ?_
      refine gz_roS (As := [.int (nI i)]) (rest := [.ref (g 0)]) ⟨hx, hb, hml, hown, hTB⟩ (c_Inodes_inodePlace l i) (cwS 1 hTB (gd_S k_147 k_148 k_54 k_149) rfl rfl rfl (by decide +kernel) ⟨Nat.le_of_ble_eq_true rfl, Nat.le_of_ble_eq_true rfl⟩) hP rfl hl.1 rfl (Nat.le_of_ble_eq_true rfl) d_Inodes_giveBlockBack_77 ⟨Nat.zero_le _, Nat.zero_le _⟩ hS (fun H locs hP hS => ?_)
      refine lv_iconst (v := nI 1) hx hb d_Inodes_giveBlockBack_80 (by decide +kernel) ?_
      refine gz_iadd hx hb d_Inodes_giveBlockBack_81 ?_
      refine lv_iload_n hx hb d_Inodes_giveBlockBack_82 rfl (lv_at hl 1 rfl) ?_
      refine gz_muV (As := [.int (nI ((1600 + 32 * i) + 1)), .int (nI (iX L (dNow u) i - 1))]) (rest := []) (wc := (wD g k L (setP L (setB L (gvB L u ((nI ((xF L (dNow u) i (iX L (dNow u) i - 1)) + (xL L (dNow u) i (iX L (dNow u) i - 1)))) - (nI 1))) (nI ((1600 + 32 * i + 4 + 3 * (iX L (dNow u) i - 1)) + 2)) ((nI (xL L (dNow u) i (iX L (dNow u) i - 1))) - (nI 1))) (nI (1600 + 32 * i + 4 + 3 * (iX L (dNow u) i - 1))) (nI 0)))) (w1 := (wD g k L (setB L (setP L (setB L (gvB L u ((nI ((xF L (dNow u) i (iX L (dNow u) i - 1)) + (xL L (dNow u) i (iX L (dNow u) i - 1)))) - (nI 1))) (nI ((1600 + 32 * i + 4 + 3 * (iX L (dNow u) i - 1)) + 2)) ((nI (xL L (dNow u) i (iX L (dNow u) i - 1))) - (nI 1))) (nI (1600 + 32 * i + 4 + 3 * (iX L (dNow u) i - 1))) (nI 0)) (nI ((1600 + 32 * i) + 1)) (nI (iX L (dNow u) i - 1))))) (wr := (hI g)) ⟨hx, hb, hml, hown, hTB⟩ (c_Disk_setByte l D g k L hL0 hL (setP L (setB L (gvB L u ((nI ((xF L (dNow u) i (iX L (dNow u) i - 1)) + (xL L (dNow u) i (iX L (dNow u) i - 1)))) - (nI 1))) (nI ((1600 + 32 * i + 4 + 3 * (iX L (dNow u) i - 1)) + 2)) ((nI (xL L (dNow u) i (iX L (dNow u) i - 1))) - (nI 1))) (nI (1600 + 32 * i + 4 + 3 * (iX L (dNow u) i - 1))) (nI 0)) (nI ((1600 + 32 * i) + 1)) (nI (iX L (dNow u) i - 1))) (cwV 2 hTB (gd_V k_150 k_151 k_152 k_52 k_153) rfl rfl rfl (by decide +kernel) ⟨Nat.le_of_ble_eq_true rfl, Nat.le_of_ble_eq_true rfl⟩) hK hP hD hA [1, 2, 3, 4, 5, 6] [0] rfl rfl (by decide) rfl (by decide) (by decide) 1 rfl rfl rfl hl.1 rfl (Nat.le_of_ble_eq_true rfl) d_Inodes_giveBlockBack_83 ⟨Nat.zero_le _, Nat.zero_le _⟩ hS (fun H locs hP hD hS => ?_)
      have hP : va_P D cl5 (wI g k L (setB L (setP L (setB L (gvB L u ((nI ((xF L (dNow u) i (iX L (dNow u) i - 1)) + (xL L (dNow u) i (iX L (dNow u) i - 1)))) - (nI 1))) (nI ((1600 + 32 * i + 4 + 3 * (iX L (dNow u) i - 1)) + 2)) ((nI (xL L (dNow u) i (iX L (dNow u) i - 1))) - (nI 1))) (nI (1600 + 32 * i + 4 + 3 * (iX L (dNow u) i - 1))) (nI 0)) (nI ((1600 + 32 * i) + 1)) (nI (iX L (dNow u) i - 1)))) H := hP
      have hD : va_D A (wI g k L (setB L (setP L (setB L (gvB L u ((nI ((xF L (dNow u) i (iX L (dNow u) i - 1)) + (xL L (dNow u) i (iX L (dNow u) i - 1)))) - (nI 1))) (nI ((1600 + 32 * i + 4 + 3 * (iX L (dNow u) i - 1)) + 2)) ((nI (xL L (dNow u) i (iX L (dNow u) i - 1))) - (nI 1))) (nI (1600 + 32 * i + 4 + 3 * (iX L (dNow u) i - 1))) (nI 0)) (nI ((1600 + 32 * i) + 1)) (nI (iX L (dNow u) i - 1)))) := hD
      have hP9 : va_P D cl5 (wI g k L (gvI L u i)) H := (by rw [gvI_1 he h56]; exact hP)
      have hD9 : va_D A (wI g k L (gvI L u i)) := (by rw [gvI_1 he h56]; exact hD)
      exact W.vret hx hb hr (fun tt9 ht9 hW9 => ⟨⟨(), rfl, trivial, ⟨by rw [ht9]; exact hP9, hD9⟩⟩, hS.F ht9⟩) hS.2.2 d_Inodes_giveBlockBack_86
  · have hP9 : va_P D cl5 (wI g k L (gvI L u i)) H := (by rw [gvI_0 (sub1_lt (by omega) h9)]; exact hP)
    have hD9 : va_D A (wI g k L (gvI L u i)) := (by rw [gvI_0 (sub1_lt (by omega) h9)]; exact hD)
    exact W.vret hx hb hr (fun tt9 ht9 hW9 => ⟨⟨(), rfl, trivial, ⟨by rw [ht9]; exact hP9, hD9⟩⟩, hS.F ht9⟩) hS.2.2 d_Inodes_giveBlockBack_12
theorem d_Inodes_resize_0 : decode b_Inodes_resize 0 = .ok (.aload_n 0, 1) := by decide +kernel
theorem d_Inodes_resize_1 : decode b_Inodes_resize 1 = .ok (.iload_n 1, 1) := by decide +kernel
theorem d_Inodes_resize_2 : decode b_Inodes_resize 2 = .ok (.invokevirtual 42, 3) := by decide +kernel
theorem d_Inodes_resize_5 : decode b_Inodes_resize 5 = .ok (.istore_n 3, 1) := by decide +kernel
theorem d_Inodes_resize_6 : decode b_Inodes_resize 6 = .ok (.iload_n 3, 1) := by decide +kernel
theorem d_Inodes_resize_7 : decode b_Inodes_resize 7 = .ok (.invokestatic 45, 3) := by decide +kernel
theorem d_Inodes_resize_10 : decode b_Inodes_resize 10 = .ok (.istore 4, 2) := by decide +kernel
theorem d_Inodes_resize_12 : decode b_Inodes_resize 12 = .ok (.iload_n 2, 1) := by decide +kernel
theorem d_Inodes_resize_13 : decode b_Inodes_resize 13 = .ok (.invokestatic 45, 3) := by decide +kernel
theorem d_Inodes_resize_16 : decode b_Inodes_resize 16 = .ok (.istore 5, 2) := by decide +kernel
theorem d_Inodes_resize_18 : decode b_Inodes_resize 18 = .ok (.iload 4, 2) := by decide +kernel
theorem d_Inodes_resize_20 : decode b_Inodes_resize 20 = .ok (.istore 6, 2) := by decide +kernel
theorem d_Inodes_resize_22 : decode b_Inodes_resize 22 = .ok (.iload 6, 2) := by decide +kernel
theorem d_Inodes_resize_24 : decode b_Inodes_resize 24 = .ok (.iload 5, 2) := by decide +kernel
theorem d_Inodes_resize_26 : decode b_Inodes_resize 26 = .ok (.if_icmp .ge 19, 3) := by decide +kernel
theorem d_Inodes_resize_29 : decode b_Inodes_resize 29 = .ok (.aload_n 0, 1) := by decide +kernel
theorem d_Inodes_resize_30 : decode b_Inodes_resize 30 = .ok (.iload_n 1, 1) := by decide +kernel
theorem d_Inodes_resize_31 : decode b_Inodes_resize 31 = .ok (.invokevirtual 48, 3) := by decide +kernel
theorem d_Inodes_resize_34 : decode b_Inodes_resize 34 = .ok (.ifCond .ne 5, 3) := by decide +kernel
theorem d_Inodes_resize_37 : decode b_Inodes_resize 37 = .ok (.iconst 0, 1) := by decide +kernel
theorem d_Inodes_resize_38 : decode b_Inodes_resize 38 = .ok (.ireturn, 1) := by decide +kernel
theorem d_Inodes_resize_39 : decode b_Inodes_resize 39 = .ok (.iinc 6 1, 3) := by decide +kernel
theorem d_Inodes_resize_42 : decode b_Inodes_resize 42 = .ok (.goto (-20), 3) := by decide +kernel
theorem d_Inodes_resize_45 : decode b_Inodes_resize 45 = .ok (.iload 4, 2) := by decide +kernel
theorem d_Inodes_resize_47 : decode b_Inodes_resize 47 = .ok (.istore 6, 2) := by decide +kernel
theorem d_Inodes_resize_49 : decode b_Inodes_resize 49 = .ok (.iload 6, 2) := by decide +kernel
theorem d_Inodes_resize_51 : decode b_Inodes_resize 51 = .ok (.iload 5, 2) := by decide +kernel
theorem d_Inodes_resize_53 : decode b_Inodes_resize 53 = .ok (.if_icmp .le 14, 3) := by decide +kernel
theorem d_Inodes_resize_56 : decode b_Inodes_resize 56 = .ok (.aload_n 0, 1) := by decide +kernel
theorem d_Inodes_resize_57 : decode b_Inodes_resize 57 = .ok (.iload_n 1, 1) := by decide +kernel
theorem d_Inodes_resize_58 : decode b_Inodes_resize 58 = .ok (.invokevirtual 52, 3) := by decide +kernel
theorem d_Inodes_resize_61 : decode b_Inodes_resize 61 = .ok (.iinc 6 (-1), 3) := by decide +kernel
theorem d_Inodes_resize_64 : decode b_Inodes_resize 64 = .ok (.goto (-15), 3) := by decide +kernel
theorem d_Inodes_resize_67 : decode b_Inodes_resize 67 = .ok (.iload_n 3, 1) := by decide +kernel
theorem d_Inodes_resize_68 : decode b_Inodes_resize 68 = .ok (.iload 5, 2) := by decide +kernel
theorem d_Inodes_resize_70 : decode b_Inodes_resize 70 = .ok (.bipush 64, 2) := by decide +kernel
theorem d_Inodes_resize_72 : decode b_Inodes_resize 72 = .ok (.imul, 1) := by decide +kernel
theorem d_Inodes_resize_73 : decode b_Inodes_resize 73 = .ok (.invokestatic 56, 3) := by decide +kernel
theorem d_Inodes_resize_76 : decode b_Inodes_resize 76 = .ok (.istore 6, 2) := by decide +kernel
theorem d_Inodes_resize_78 : decode b_Inodes_resize 78 = .ok (.iload_n 2, 1) := by decide +kernel
theorem d_Inodes_resize_79 : decode b_Inodes_resize 79 = .ok (.istore 7, 2) := by decide +kernel
theorem d_Inodes_resize_81 : decode b_Inodes_resize 81 = .ok (.iload 7, 2) := by decide +kernel
theorem d_Inodes_resize_83 : decode b_Inodes_resize 83 = .ok (.iload 6, 2) := by decide +kernel
theorem d_Inodes_resize_85 : decode b_Inodes_resize 85 = .ok (.if_icmp .ge 24, 3) := by decide +kernel
theorem d_Inodes_resize_88 : decode b_Inodes_resize 88 = .ok (.aload_n 0, 1) := by decide +kernel
theorem d_Inodes_resize_89 : decode b_Inodes_resize 89 = .ok (.getfield 9, 3) := by decide +kernel
theorem d_Inodes_resize_92 : decode b_Inodes_resize 92 = .ok (.aload_n 0, 1) := by decide +kernel
theorem d_Inodes_resize_93 : decode b_Inodes_resize 93 = .ok (.iload_n 1, 1) := by decide +kernel
theorem d_Inodes_resize_94 : decode b_Inodes_resize 94 = .ok (.iload 7, 2) := by decide +kernel
theorem d_Inodes_resize_96 : decode b_Inodes_resize 96 = .ok (.invokevirtual 61, 3) := by decide +kernel
theorem d_Inodes_resize_99 : decode b_Inodes_resize 99 = .ok (.iconst 0, 1) := by decide +kernel
theorem d_Inodes_resize_100 : decode b_Inodes_resize 100 = .ok (.invokevirtual 34, 3) := by decide +kernel
theorem d_Inodes_resize_103 : decode b_Inodes_resize 103 = .ok (.iinc 7 1, 3) := by decide +kernel
theorem d_Inodes_resize_106 : decode b_Inodes_resize 106 = .ok (.goto (-25), 3) := by decide +kernel
theorem d_Inodes_resize_109 : decode b_Inodes_resize 109 = .ok (.aload_n 0, 1) := by decide +kernel
theorem d_Inodes_resize_110 : decode b_Inodes_resize 110 = .ok (.getfield 9, 3) := by decide +kernel
theorem d_Inodes_resize_113 : decode b_Inodes_resize 113 = .ok (.iload_n 1, 1) := by decide +kernel
theorem d_Inodes_resize_114 : decode b_Inodes_resize 114 = .ok (.invokestatic 15, 3) := by decide +kernel
theorem d_Inodes_resize_117 : decode b_Inodes_resize 117 = .ok (.iconst 2, 1) := by decide +kernel
theorem d_Inodes_resize_118 : decode b_Inodes_resize 118 = .ok (.iadd, 1) := by decide +kernel
theorem d_Inodes_resize_119 : decode b_Inodes_resize 119 = .ok (.iload_n 2, 1) := by decide +kernel
theorem d_Inodes_resize_120 : decode b_Inodes_resize 120 = .ok (.invokevirtual 64, 3) := by decide +kernel
theorem d_Inodes_resize_123 : decode b_Inodes_resize 123 = .ok (.iconst 1, 1) := by decide +kernel
theorem d_Inodes_resize_124 : decode b_Inodes_resize 124 = .ok (.ireturn, 1) := by decide +kernel
set_option maxHeartbeats 4000000 in
set_option maxRecDepth 100000 in
theorem c_Inodes_resize (l : Launch) (D : va_G) (g : Nat → Nat) (k : Nat → ClassId) (L : Nat) (hL0 : 96 ≤ L) (hL : L ≤ 768) (u : DSt) (i n : Nat) (hn0 : n < 1000000) : MuI l y_Inodes_resize w_Inodes_resize ({ frames := 5, cells := 0, slots := 0, locals := 152 }) [.ref (g 6), .int (nI i), .int (nI n)] D cl5 (tyC k) (wI g k L u) (wI g k L ((rsz L u i n).2)) (zI (rsz L u i n).1) := by
  intro sz
  refine Met.ofW (cc := b_Inodes_resize) (maxL := 8) (ret := (some .boolean)) (by decide) rfl ?_
  intro p e s m args below meth c s₁ B hml hv
  obtain ⟨rfl, hsz, hP, hK, hD0⟩ := hv
  have hx := B.exec
  have hb := B.bytes
  have hr := B.returns
  have hts := atoms_spec (ws := w_Inodes_resize) B.pre
  have hTB : ∀ w ∈ lw_tb, w.before _ s = true := fun w h => hts w (List.mem_cons_of_mem _ h)
  have hown : s.vm.findClass R_Inodes = some m.cls := findClass_of_methodNamed B.named
  have hlocks := B.notSynchronized
  subst hsz
  have hD := hD0.self (sz := s.heap.size)
  generalize hAe : va_A (wI g k L u) s.heap.size = A at hD ⊢
  have hA : ∀ q : Nat, s.heap.size ≤ q → A q := fun q h => by rw [← hAe]; exact Or.inr h
  have hS : va_S A s.heap s.heap [] := va_S.rf
  have hl := lv_entry ([.ref (g 6), .int (nI i), .int (nI n)]) (n := 8) (Nat.le_of_ble_eq_true rfl)
  rw [lg_entry_eq]
  generalize (lg_sl ([.ref (g 6), .int (nI i), .int (nI n)]) ++ List.replicate (8 - (lg_sl ([.ref (g 6), .int (nI i), .int (nI n)])).length) Slot.unset).toArray = ls at hl ⊢
  have hl : lv_has ls 8 [(0, .ref (g 6)), (1, .int (nI i)), (2, .int (nI n))] := hl
  refine lv_aload_n hx hb d_Inodes_resize_0 rfl (lv_at hl 0 rfl) ?_
  refine lv_iload_n hx hb d_Inodes_resize_1 rfl (lv_at hl 1 rfl) ?_
  refine gz_roV (As := [.int (nI i)]) (rest := []) (wc := (wI g k L u)) ⟨hx, hb, hml, hown, hTB⟩ (c_Inodes_size l D g k L hL0 hL u i) (cwV 1 hTB (gd_V k_395 k_353 k_354 k_54 k_355) rfl rfl rfl (by decide +kernel) ⟨Nat.le_of_ble_eq_true rfl, Nat.le_of_ble_eq_true rfl⟩) hK hP [0, 1, 2, 3, 4, 5, 6] rfl 0 rfl rfl rfl hl.1 rfl (Nat.le_of_ble_eq_true rfl) d_Inodes_resize_2 ⟨Nat.zero_le _, Nat.zero_le _⟩ hS (fun H locs hP hS => ?_)
  have := iS_lt L (dNow u) i
  refine lv_istore_n (lv' := [(3, .int (nI (iS L (dNow u) i))), (0, .ref (g 6)), (1, .int (nI i)), (2, .int (nI n))]) hx hb d_Inodes_resize_5 rfl hl (by decide) rfl (fun ls hl => ?_)
  refine lv_iload_n hx hb d_Inodes_resize_6 rfl (lv_at hl 0 rfl) ?_
  refine gz_roS (As := [.int (nI (iS L (dNow u) i))]) (rest := []) ⟨hx, hb, hml, hown, hTB⟩ (c_Inodes_blocksFor l (iS L (dNow u) i) (by omega)) (cwS 1 hTB (gd_S k_396 k_397 k_54 k_398) rfl rfl rfl (by decide +kernel) ⟨Nat.le_of_ble_eq_true rfl, Nat.le_of_ble_eq_true rfl⟩) hP rfl hl.1 rfl (Nat.le_of_ble_eq_true rfl) d_Inodes_resize_7 ⟨Nat.zero_le _, Nat.zero_le _⟩ hS (fun H locs hP hS => ?_)
  have : blk (iS L (dNow u) i) = ((iS L (dNow u) i) + 64 - 1) / 64 := rfl
  refine lv_istore (lv' := [(4, .int (nI (blk (iS L (dNow u) i)))), (3, .int (nI (iS L (dNow u) i))), (0, .ref (g 6)), (1, .int (nI i)), (2, .int (nI n))]) hx hb d_Inodes_resize_10 hl (by decide) rfl (fun ls hl => ?_)
  refine lv_iload_n hx hb d_Inodes_resize_12 rfl (lv_at hl 4 rfl) ?_
  refine gz_roS (As := [.int (nI n)]) (rest := []) ⟨hx, hb, hml, hown, hTB⟩ (c_Inodes_blocksFor l n (by omega)) (cwS 1 hTB (gd_S k_396 k_397 k_54 k_398) rfl rfl rfl (by decide +kernel) ⟨Nat.le_of_ble_eq_true rfl, Nat.le_of_ble_eq_true rfl⟩) hP rfl hl.1 rfl (Nat.le_of_ble_eq_true rfl) d_Inodes_resize_13 ⟨Nat.zero_le _, Nat.zero_le _⟩ hS (fun H locs hP hS => ?_)
  have : blk n = (n + 64 - 1) / 64 := rfl
  refine lv_istore (lv' := [(5, .int (nI (blk n))), (4, .int (nI (blk (iS L (dNow u) i)))), (3, .int (nI (iS L (dNow u) i))), (0, .ref (g 6)), (1, .int (nI i)), (2, .int (nI n))]) hx hb d_Inodes_resize_16 hl (by decide) rfl (fun ls hl => ?_)
  refine lv_iload hx hb d_Inodes_resize_18 (lv_at hl 1 rfl) ?_
  refine lv_istore (lv' := [(6, .int (nI (blk (iS L (dNow u) i)))), (5, .int (nI (blk n))), (4, .int (nI (blk (iS L (dNow u) i)))), (3, .int (nI (iS L (dNow u) i))), (0, .ref (g 6)), (1, .int (nI i)), (2, .int (nI n))]) hx hb d_Inodes_resize_20 hl (by decide) rfl (fun ls hl => ?_)
  refine gz_loop 22 (fun (zz : (Nat × DSt)) H locs ls => match zz with | (m1, v) => va_P D cl5 (wI g k L v) H ∧ va_D A (wI g k L v) ∧ va_S A s.heap H locs ∧ lv_has ls 8 [(0, .ref (g 6)), (1, .int (nI i)), (2, .int (nI n)), (3, .int (nI (iS L (dNow u) i))), (4, .int (nI (blk (iS L (dNow u) i)))), (5, .int (nI (blk n))), (6, .int (nI m1))] ∧ (m1 = blk (iS L (dNow u) i) ∨ m1 ≤ blk n) ∧ (rtG L i (blk n - m1) v = rs1 L u i n) ∧ (m1 ≤ 4000000)) (fun (zz : (Nat × DSt)) => match zz with | (m1, v) => blk n - m1) (fun zz H locs ls hI ih22 => ?_) (blk (iS L (dNow u) i), u) ⟨hP, hD, hS, lv_sub hl [4, 5, 6, 3, 2, 1, 0] rfl, (Or.inl rfl), rfl, (by omega)⟩
  obtain ⟨m1, v⟩ := zz
  obtain ⟨hP, hD, hS, hl, hm0, hm1, hm2⟩ := hI
  refine lv_iload hx hb d_Inodes_resize_22 (lv_at hl 6 rfl) ?_
  refine lv_iload hx hb d_Inodes_resize_24 (lv_at hl 5 rfl) ?_
  refine gz_icmp_ge (tgt := 45) hx hb d_Inodes_resize_26 (by decide) (by omega) (by omega) (fun h26 => ?_) (fun h26 => ?_)
  · rw [show blk n - m1 = 0 by omega] at hm1
    have hm1 : (true, v) = rs1 L u i n := hm1
    have hv1 : (rs1 L u i n).1 = true := by rw [← hm1]
    have hv2 : v = (rs1 L u i n).2 := by rw [← hm1]
    subst hv2
    refine lv_iload hx hb d_Inodes_resize_45 (lv_at hl 4 rfl) ?_
    refine lv_istore (lv' := [(6, .int (nI (blk (iS L (dNow u) i)))), (0, .ref (g 6)), (1, .int (nI i)), (2, .int (nI n)), (3, .int (nI (iS L (dNow u) i))), (4, .int (nI (blk (iS L (dNow u) i)))), (5, .int (nI (blk n)))]) hx hb d_Inodes_resize_47 hl (by decide) rfl (fun ls hl => ?_)
    refine gz_loop 49 (fun (zz : (Nat × DSt)) H locs ls => match zz with | (m2, v) => va_P D cl5 (wI g k L v) H ∧ va_D A (wI g k L v) ∧ va_S A s.heap H locs ∧ lv_has ls 8 [(0, .ref (g 6)), (1, .int (nI i)), (2, .int (nI n)), (3, .int (nI (iS L (dNow u) i))), (4, .int (nI (blk (iS L (dNow u) i)))), (5, .int (nI (blk n))), (6, .int (nI m2))] ∧ (rgG L i (m2 - blk n) v = rs2 L u i n) ∧ (m2 ≤ 4000000)) (fun (zz : (Nat × DSt)) => match zz with | (m2, v) => m2) (fun zz H locs ls hI ih49 => ?_) (blk (iS L (dNow u) i), (rs1 L u i n).2) ⟨hP, hD, hS, lv_sub hl [1, 2, 3, 4, 5, 6, 0] rfl, rfl, (by omega)⟩
    obtain ⟨m2, v⟩ := zz
    obtain ⟨hP, hD, hS, hl, hm3, hm4⟩ := hI
    refine lv_iload hx hb d_Inodes_resize_49 (lv_at hl 6 rfl) ?_
    refine lv_iload hx hb d_Inodes_resize_51 (lv_at hl 5 rfl) ?_
    refine gz_icmp_le (tgt := 67) hx hb d_Inodes_resize_53 (by decide) (by omega) (by omega) (fun h53 => ?_) (fun h53 => ?_)
    · rw [show m2 - blk n = 0 by omega] at hm3
      have hm3 : v = rs2 L u i n := hm3
      subst hm3
      refine lv_iload_n hx hb d_Inodes_resize_67 rfl (lv_at hl 3 rfl) ?_
      refine lv_iload hx hb d_Inodes_resize_68 (lv_at hl 5 rfl) ?_
      refine lv_bipush (v := nI 64) hx hb d_Inodes_resize_70 (by decide +kernel) ?_
      refine gz_imul hx hb d_Inodes_resize_72 ?_
      refine gz_mmin hx hb (hml.trans hl.1.symm) hown (hTB _ k_425) (hTB _ k_426) (hTB _ k_62) (hTB _ k_427) (Nat.le_of_ble_eq_true rfl) (Nat.le_of_ble_eq_true rfl) (Nat.zero_le _) (Nat.zero_le _) (by omega) (by omega) d_Inodes_resize_73 ?_
      refine lv_istore (lv' := [(6, .int (nI (min (iS L (dNow u) i) ((blk n) * 64)))), (0, .ref (g 6)), (1, .int (nI i)), (2, .int (nI n)), (3, .int (nI (iS L (dNow u) i))), (4, .int (nI (blk (iS L (dNow u) i)))), (5, .int (nI (blk n)))]) hx hb d_Inodes_resize_76 hl (by decide) rfl (fun ls hl => ?_)
      refine lv_iload_n hx hb d_Inodes_resize_78 rfl (lv_at hl 3 rfl) ?_
      refine lv_istore (lv' := [(7, .int (nI n)), (6, .int (nI (min (iS L (dNow u) i) ((blk n) * 64)))), (0, .ref (g 6)), (1, .int (nI i)), (2, .int (nI n)), (3, .int (nI (iS L (dNow u) i))), (4, .int (nI (blk (iS L (dNow u) i)))), (5, .int (nI (blk n)))]) hx hb d_Inodes_resize_79 hl (by decide) rfl (fun ls hl => ?_)
      refine gz_loop 81 (fun (zz : (Nat × DSt)) H locs ls => match zz with | (t, v) => va_P D cl5 (wI g k L v) H ∧ va_D A (wI g k L v) ∧ va_S A s.heap H locs ∧ lv_has ls 8 [(0, .ref (g 6)), (1, .int (nI i)), (2, .int (nI n)), (6, .int (nI (min (iS L (dNow u) i) (blk n * 64)))), (7, .int (nI t))] ∧ (rzG L i (min (iS L (dNow u) i) (blk n * 64) - t) t v = rs3 L u i n) ∧ (n ≤ t) ∧ (t ≤ 4000000)) (fun (zz : (Nat × DSt)) => match zz with | (t, v) => min (iS L (dNow u) i) (blk n * 64) - t) (fun zz H locs ls hI ih81 => ?_) (n, rs2 L u i n) ⟨hP, hD, hS, lv_sub hl [2, 3, 4, 1, 0] rfl, rfl, (by omega), (by omega)⟩
      obtain ⟨t, v⟩ := zz
      obtain ⟨hP, hD, hS, hl, ht1, ht2, ht3⟩ := hI
      refine lv_iload hx hb d_Inodes_resize_81 (lv_at hl 4 rfl) ?_
      refine lv_iload hx hb d_Inodes_resize_83 (lv_at hl 3 rfl) ?_
      refine gz_icmp_ge (tgt := 109) hx hb d_Inodes_resize_85 (by decide) (by omega) (by omega) (fun h85 => ?_) (fun h85 => ?_)
      · rw [show min (iS L (dNow u) i) (blk n * 64) - t = 0 by omega] at ht1
        have ht1 : v = rs3 L u i n := ht1
        subst ht1
        refine lv_aload_n hx hb d_Inodes_resize_109 rfl (lv_at hl 0 rfl) ?_
        refine va_get (D := D) (ci := 2) (v := .ref (g 0)) (C := R_Inodes) (T := T_Inodes) (N := 1) hx hb hTB in_Inodes hown hK hP 0 rfl rfl 0 (by decide) (hTB _ k_122) (fun _ h9 => h9) rfl d_Inodes_resize_110 ?_
        refine lv_iload_n hx hb d_Inodes_resize_113 rfl (lv_at hl 1 rfl) ?_
        refine gz_roS (As := [.int (nI i)]) (rest := [.ref (g 0)]) ⟨hx, hb, hml, hown, hTB⟩ (c_Inodes_inodePlace l i) (cwS 1 hTB (gd_S k_147 k_148 k_54 k_149) rfl rfl rfl (by decide +kernel) ⟨Nat.le_of_ble_eq_true rfl, Nat.le_of_ble_eq_true rfl⟩) hP rfl hl.1 rfl (Nat.le_of_ble_eq_true rfl) d_Inodes_resize_114 ⟨Nat.zero_le _, Nat.zero_le _⟩ hS (fun H locs hP hS => ?_)
        refine lv_iconst (v := nI 2) hx hb d_Inodes_resize_117 (by decide +kernel) ?_
        refine gz_iadd hx hb d_Inodes_resize_118 ?_
        refine lv_iload_n hx hb d_Inodes_resize_119 rfl (lv_at hl 2 rfl) ?_
        refine gz_muV (As := [.int (nI ((1600 + 32 * i) + 2)), .int (nI n)]) (rest := []) (wc := (wD g k L (rs3 L u i n))) (w1 := (wD g k L (setP L (rs3 L u i n) (nI ((1600 + 32 * i) + 2)) (nI n)))) (wr := (hI g)) ⟨hx, hb, hml, hown, hTB⟩ (c_Disk_setPair l D g k L hL0 hL (rs3 L u i n) (nI ((1600 + 32 * i) + 2)) (nI n)) (cwV 2 hTB (gd_V k_412 k_413 k_414 k_52 k_415) rfl rfl rfl (by decide +kernel) ⟨Nat.le_of_ble_eq_true rfl, Nat.le_of_ble_eq_true rfl⟩) hK hP hD hA [1, 2, 3, 4, 5, 6] [0] rfl rfl (by decide) rfl (by decide) (by decide) 1 rfl rfl rfl hl.1 rfl (Nat.le_of_ble_eq_true rfl) d_Inodes_resize_120 ⟨Nat.zero_le _, Nat.zero_le _⟩ hS (fun H locs hP hD hS => ?_)
        have hP : va_P D cl5 (wI g k L (setP L (rs3 L u i n) (nI ((1600 + 32 * i) + 2)) (nI n))) H := hP
        have hD : va_D A (wI g k L (setP L (rs3 L u i n) (nI ((1600 + 32 * i) + 2)) (nI n))) := hD
        refine lv_iconst (v := nI 1) hx hb d_Inodes_resize_123 (by decide +kernel) ?_
        have hP9 : va_P D cl5 (wI g k L ((rsz L u i n).2)) H := (by unfold rsz; rw [if_pos hv1]; exact hP)
        have hD9 : va_D A (wI g k L ((rsz L u i n).2)) := (by unfold rsz; rw [if_pos hv1]; exact hD)
        exact W.zret (v := nI 1) (ty := .boolean) hx hb hr (by decide +kernel) (fun tt9 ht9 hW9 => ⟨⟨_, (), rfl, (by unfold rsz; rw [if_pos hv1]; rfl), ⟨by rw [ht9]; exact hP9, hD9⟩⟩, hS.F ht9⟩) hS.2.2 d_Inodes_resize_124
      · refine lv_aload_n hx hb d_Inodes_resize_88 rfl (lv_at hl 0 rfl) ?_
        refine va_get (D := D) (ci := 2) (v := .ref (g 0)) (C := R_Inodes) (T := T_Inodes) (N := 1) hx hb hTB in_Inodes hown hK hP 0 rfl rfl 0 (by decide) (hTB _ k_122) (fun _ h9 => h9) rfl d_Inodes_resize_89 ?_
        refine lv_aload_n hx hb d_Inodes_resize_92 rfl (lv_at hl 0 rfl) ?_
        refine lv_iload_n hx hb d_Inodes_resize_93 rfl (lv_at hl 1 rfl) ?_
        refine lv_iload hx hb d_Inodes_resize_94 (lv_at hl 4 rfl) ?_
        refine gz_roV (As := [.int (nI i), .int (nI t)]) (rest := [.ref (g 0)]) (wc := (wI g k L v)) ⟨hx, hb, hml, hown, hTB⟩ (c_Inodes_placeOf l D g k L hL0 hL v i t (by omega)) (cwV 2 hTB (gd_V k_428 k_362 k_363 k_54 k_364) rfl rfl rfl (by decide +kernel) ⟨Nat.le_of_ble_eq_true rfl, Nat.le_of_ble_eq_true rfl⟩) hK hP [0, 1, 2, 3, 4, 5, 6] rfl 0 rfl rfl rfl hl.1 rfl (Nat.le_of_ble_eq_true rfl) d_Inodes_resize_96 ⟨Nat.zero_le _, Nat.zero_le _⟩ hS (fun H locs hP hS => ?_)
        refine lv_iconst (v := nI 0) hx hb d_Inodes_resize_99 (by decide +kernel) ?_
        refine gz_muV (As := [.int (plc L (dNow v) i t), .int (nI 0)]) (rest := []) (wc := (wD g k L v)) (w1 := (wD g k L (setB L v (plc L (dNow v) i t) (nI 0)))) (wr := (hI g)) ⟨hx, hb, hml, hown, hTB⟩ (c_Disk_setByte l D g k L hL0 hL v (plc L (dNow v) i t) (nI 0)) (cwV 2 hTB (gd_V k_150 k_151 k_152 k_52 k_153) rfl rfl rfl (by decide +kernel) ⟨Nat.le_of_ble_eq_true rfl, Nat.le_of_ble_eq_true rfl⟩) hK hP hD hA [1, 2, 3, 4, 5, 6] [0] rfl rfl (by decide) rfl (by decide) (by decide) 1 rfl rfl rfl hl.1 rfl (Nat.le_of_ble_eq_true rfl) d_Inodes_resize_100 ⟨Nat.zero_le _, Nat.zero_le _⟩ hS (fun H locs hP hD hS => ?_)
        have hP : va_P D cl5 (wI g k L (setB L v (plc L (dNow v) i t) (nI 0))) H := hP
        have hD : va_D A (wI g k L (setB L v (plc L (dNow v) i t) (nI 0))) := hD
        refine lv_iinc (v := nI (t + 1)) (lv' := [(7, .int (nI (t + 1))), (0, .ref (g 6)), (1, .int (nI i)), (2, .int (nI n)), (6, .int (nI (min (iS L (dNow u) i) (blk n * 64))))]) hx hb d_Inodes_resize_103 hl (k := 4) rfl (nI_add t 1) (by decide) rfl (fun ls hl => ?_)
        refine lv_goto (tgt := 81) hx hb d_Inodes_resize_106 (by decide) ?_
        exact ih81 (t + 1, setB L v (plc L (dNow v) i t) (nI 0)) _ _ _ (by first | omega | (dsimp only; omega)) ⟨hP, hD, hS, lv_sub hl [1, 2, 3, 4, 0] rfl, (by rw [← ht1, show min (iS L (dNow u) i) (blk n * 64) - t = (min (iS L (dNow u) i) (blk n * 64) - (t + 1)) + 1 by omega, rzG]), (by omega), (by omega)⟩
    · refine lv_aload_n hx hb d_Inodes_resize_56 rfl (lv_at hl 0 rfl) ?_
      refine lv_iload_n hx hb d_Inodes_resize_57 rfl (lv_at hl 1 rfl) ?_
      refine gz_muV (As := [.int (nI i)]) (rest := []) (wc := (wI g k L v)) (w1 := (wI g k L (gvI L v i))) (wr := ([])) ⟨hx, hb, hml, hown, hTB⟩ (c_Inodes_giveBlockBack l D g k L hL0 hL v i) (cwV 1 hTB (gd_V k_417 k_419 k_10 k_54 k_420) rfl rfl rfl (by decide +kernel) ⟨Nat.le_of_ble_eq_true rfl, Nat.le_of_ble_eq_true rfl⟩) hK hP hD hA [0, 1, 2, 3, 4, 5, 6] [] rfl rfl (by decide) rfl (by decide) (by decide) 0 rfl rfl rfl hl.1 rfl (Nat.le_of_ble_eq_true rfl) d_Inodes_resize_58 ⟨Nat.zero_le _, Nat.zero_le _⟩ hS (fun H locs hP hD hS => ?_)
      have hP : va_P D cl5 (wI g k L (gvI L v i)) H := hP
      have hD : va_D A (wI g k L (gvI L v i)) := hD
      refine lv_iinc (v := nI (m2 - 1)) (lv' := [(6, .int (nI (m2 - 1))), (0, .ref (g 6)), (1, .int (nI i)), (2, .int (nI n)), (3, .int (nI (iS L (dNow u) i))), (4, .int (nI (blk (iS L (dNow u) i)))), (5, .int (nI (blk n)))]) hx hb d_Inodes_resize_61 hl (k := 6) rfl (gz_dec (k := 1) (by omega)) (by decide) rfl (fun ls hl => ?_)
      refine lv_goto (tgt := 49) hx hb d_Inodes_resize_64 (by decide) ?_
      exact ih49 (m2 - 1, gvI L v i) _ _ _ (by first | omega | (dsimp only; omega)) ⟨hP, hD, hS, lv_sub hl [1, 2, 3, 4, 5, 6, 0] rfl, (by rw [← hm3, show m2 - blk n = (m2 - 1 - blk n) + 1 by omega, rgG]), (by omega)⟩
  · refine lv_aload_n hx hb d_Inodes_resize_29 rfl (lv_at hl 0 rfl) ?_
    refine lv_iload_n hx hb d_Inodes_resize_30 rfl (lv_at hl 1 rfl) ?_
    refine gz_muI (As := [.int (nI i)]) (rest := []) (wc := (wI g k L v)) (w1 := (wI g k L ((tkI L v i).2))) (wr := ([])) ⟨hx, hb, hml, hown, hTB⟩ (c_Inodes_takeBlock l D g k L hL0 hL v i) (cwV 1 hTB (gd_V k_399 k_401 k_9 k_54 k_402) rfl rfl rfl (by decide +kernel) ⟨Nat.le_of_ble_eq_true rfl, Nat.le_of_ble_eq_true rfl⟩) hK hP hD hA [0, 1, 2, 3, 4, 5, 6] [] rfl rfl (by decide) rfl (by decide) (by decide) 0 rfl rfl rfl hl.1 rfl (Nat.le_of_ble_eq_true rfl) d_Inodes_resize_31 ⟨Nat.zero_le _, Nat.zero_le _⟩ hS (fun H locs hP hD hS => ?_)
    have hP : va_P D cl5 (wI g k L ((tkI L v i).2)) H := hP
    have hD : va_D A (wI g k L ((tkI L v i).2)) := hD
    refine gz_ifz_ne (tgt := 39) hx hb d_Inodes_resize_34 (by decide) (fun h34 => ?_) (fun h34 => ?_)
    · refine lv_iinc (v := nI (m1 + 1)) (lv' := [(6, .int (nI (m1 + 1))), (0, .ref (g 6)), (1, .int (nI i)), (2, .int (nI n)), (3, .int (nI (iS L (dNow u) i))), (4, .int (nI (blk (iS L (dNow u) i)))), (5, .int (nI (blk n)))]) hx hb d_Inodes_resize_39 hl (k := 6) rfl (nI_add m1 1) (by decide) rfl (fun ls hl => ?_)
      refine lv_goto (tgt := 22) hx hb d_Inodes_resize_42 (by decide) ?_
      exact ih22 (m1 + 1, (tkI L v i).2) _ _ _ (by first | omega | (dsimp only; omega)) ⟨hP, hD, hS, lv_sub hl [1, 2, 3, 4, 5, 6, 0] rfl, (by omega), (by rw [← hm1, show blk n - m1 = (blk n - (m1 + 1)) + 1 by omega, rtG, if_pos h34]), (by omega)⟩
    · have hf : rs1 L u i n = (false, (tkI L v i).2) := by rw [← hm1, show blk n - m1 = (blk n - (m1 + 1)) + 1 by omega, rtG, if_neg (by rw [h34]; decide)]
      refine lv_iconst (v := nI 0) hx hb d_Inodes_resize_37 (by decide +kernel) ?_
      have hP9 : va_P D cl5 (wI g k L ((rsz L u i n).2)) H := (by unfold rsz; rw [hf]; exact hP)
      have hD9 : va_D A (wI g k L ((rsz L u i n).2)) := (by unfold rsz; rw [hf]; exact hD)
      exact W.zret (v := nI 0) (ty := .boolean) hx hb hr (by decide +kernel) (fun tt9 ht9 hW9 => ⟨⟨_, (), rfl, (by unfold rsz; rw [hf]; rfl), ⟨by rw [ht9]; exact hP9, hD9⟩⟩, hS.F ht9⟩) hS.2.2 d_Inodes_resize_38
theorem d_Inodes_release_0 : decode b_Inodes_release 0 = .ok (.aload_n 0, 1) := by decide +kernel
theorem d_Inodes_release_1 : decode b_Inodes_release 1 = .ok (.iload_n 1, 1) := by decide +kernel
theorem d_Inodes_release_2 : decode b_Inodes_release 2 = .ok (.iconst 0, 1) := by decide +kernel
theorem d_Inodes_release_3 : decode b_Inodes_release 3 = .ok (.invokevirtual 38, 3) := by decide +kernel
theorem d_Inodes_release_6 : decode b_Inodes_release 6 = .ok (.pop, 1) := by decide +kernel
theorem d_Inodes_release_7 : decode b_Inodes_release 7 = .ok (.aload_n 0, 1) := by decide +kernel
theorem d_Inodes_release_8 : decode b_Inodes_release 8 = .ok (.getfield 9, 3) := by decide +kernel
theorem d_Inodes_release_11 : decode b_Inodes_release 11 = .ok (.iload_n 1, 1) := by decide +kernel
theorem d_Inodes_release_12 : decode b_Inodes_release 12 = .ok (.invokestatic 15, 3) := by decide +kernel
theorem d_Inodes_release_15 : decode b_Inodes_release 15 = .ok (.iconst 0, 1) := by decide +kernel
theorem d_Inodes_release_16 : decode b_Inodes_release 16 = .ok (.invokevirtual 34, 3) := by decide +kernel
theorem d_Inodes_release_19 : decode b_Inodes_release 19 = .ok (.return_, 1) := by decide +kernel
set_option maxHeartbeats 4000000 in
set_option maxRecDepth 100000 in
theorem c_Inodes_release (l : Launch) (D : va_G) (g : Nat → Nat) (k : Nat → ClassId) (L : Nat) (hL0 : 96 ≤ L) (hL : L ≤ 768) (u : DSt) (i : Nat) : MuV l y_Inodes_release w_Inodes_release ({ frames := 6, cells := 0, slots := 0, locals := 179 }) [.ref (g 6), .int (nI i)] D cl5 (tyC k) (wI g k L u) (wI g k L (rel L u i)) := by
  intro sz
  refine Met.ofW (cc := b_Inodes_release) (maxL := 2) (ret := none) (by decide) rfl ?_
  intro p e s m args below meth c s₁ B hml hv
  obtain ⟨rfl, hsz, hP, hK, hD0⟩ := hv
  have hx := B.exec
  have hb := B.bytes
  have hr := B.returns
  have hts := atoms_spec (ws := w_Inodes_release) B.pre
  have hTB : ∀ w ∈ lw_tb, w.before _ s = true := fun w h => hts w (List.mem_cons_of_mem _ h)
  have hown : s.vm.findClass R_Inodes = some m.cls := findClass_of_methodNamed B.named
  have hlocks := B.notSynchronized
  subst hsz
  have hD := hD0.self (sz := s.heap.size)
  generalize hAe : va_A (wI g k L u) s.heap.size = A at hD ⊢
  have hA : ∀ q : Nat, s.heap.size ≤ q → A q := fun q h => by rw [← hAe]; exact Or.inr h
  have hS : va_S A s.heap s.heap [] := va_S.rf
  have hl := lv_entry ([.ref (g 6), .int (nI i)]) (n := 2) (Nat.le_of_ble_eq_true rfl)
  rw [lg_entry_eq]
  generalize (lg_sl ([.ref (g 6), .int (nI i)]) ++ List.replicate (2 - (lg_sl ([.ref (g 6), .int (nI i)])).length) Slot.unset).toArray = ls at hl ⊢
  have hl : lv_has ls 2 [(0, .ref (g 6)), (1, .int (nI i))] := hl
  refine lv_aload_n hx hb d_Inodes_release_0 rfl (lv_at hl 0 rfl) ?_
  refine lv_iload_n hx hb d_Inodes_release_1 rfl (lv_at hl 1 rfl) ?_
  refine lv_iconst (v := nI 0) hx hb d_Inodes_release_2 (by decide +kernel) ?_
  refine gz_muI (As := [.int (nI i), .int (nI 0)]) (rest := []) (wc := (wI g k L u)) (w1 := (wI g k L ((rsz L u i 0).2))) (wr := ([])) ⟨hx, hb, hml, hown, hTB⟩ (c_Inodes_resize l D g k L hL0 hL u i 0 (by omega)) (cwV 2 hTB (gd_V k_538 k_392 k_393 k_54 k_394) rfl rfl rfl (by decide +kernel) ⟨Nat.le_of_ble_eq_true rfl, Nat.le_of_ble_eq_true rfl⟩) hK hP hD hA [0, 1, 2, 3, 4, 5, 6] [] rfl rfl (by decide) rfl (by decide) (by decide) 0 rfl rfl rfl hl.1 rfl (Nat.le_of_ble_eq_true rfl) d_Inodes_release_3 ⟨Nat.zero_le _, Nat.zero_le _⟩ hS (fun H locs hP hD hS => ?_)
  have hP : va_P D cl5 (wI g k L ((rsz L u i 0).2)) H := hP
  have hD : va_D A (wI g k L ((rsz L u i 0).2)) := hD
  refine lv_pop hx hb d_Inodes_release_6 rfl ?_
  refine lv_aload_n hx hb d_Inodes_release_7 rfl (lv_at hl 0 rfl) ?_
  refine va_get (D := D) (ci := 2) (v := .ref (g 0)) (C := R_Inodes) (T := T_Inodes) (N := 1) hx hb hTB in_Inodes hown hK hP 0 rfl rfl 0 (by decide) (hTB _ k_122) (fun _ h9 => h9) rfl d_Inodes_release_8 ?_
  refine lv_iload_n hx hb d_Inodes_release_11 rfl (lv_at hl 1 rfl) ?_
  refine gz_roS (As := [.int (nI i)]) (rest := [.ref (g 0)]) ⟨hx, hb, hml, hown, hTB⟩ (c_Inodes_inodePlace l i) (cwS 1 hTB (gd_S k_147 k_148 k_54 k_149) rfl rfl rfl (by decide +kernel) ⟨Nat.le_of_ble_eq_true rfl, Nat.le_of_ble_eq_true rfl⟩) hP rfl hl.1 rfl (Nat.le_of_ble_eq_true rfl) d_Inodes_release_12 ⟨Nat.zero_le _, Nat.zero_le _⟩ hS (fun H locs hP hS => ?_)
  refine lv_iconst (v := nI 0) hx hb d_Inodes_release_15 (by decide +kernel) ?_
  refine gz_muV (As := [.int (nI (1600 + 32 * i)), .int (nI 0)]) (rest := []) (wc := (wD g k L ((rsz L u i 0).2))) (w1 := (wD g k L (setB L ((rsz L u i 0).2) (nI (1600 + 32 * i)) (nI 0)))) (wr := (hI g)) ⟨hx, hb, hml, hown, hTB⟩ (c_Disk_setByte l D g k L hL0 hL ((rsz L u i 0).2) (nI (1600 + 32 * i)) (nI 0)) (cwV 2 hTB (gd_V k_150 k_151 k_152 k_52 k_153) rfl rfl rfl (by decide +kernel) ⟨Nat.le_of_ble_eq_true rfl, Nat.le_of_ble_eq_true rfl⟩) hK hP hD hA [1, 2, 3, 4, 5, 6] [0] rfl rfl (by decide) rfl (by decide) (by decide) 1 rfl rfl rfl hl.1 rfl (Nat.le_of_ble_eq_true rfl) d_Inodes_release_16 ⟨Nat.zero_le _, Nat.zero_le _⟩ hS (fun H locs hP hD hS => ?_)
  have hP : va_P D cl5 (wI g k L (setB L ((rsz L u i 0).2) (nI (1600 + 32 * i)) (nI 0))) H := hP
  have hD : va_D A (wI g k L (setB L ((rsz L u i 0).2) (nI (1600 + 32 * i)) (nI 0))) := hD
  have hP9 : va_P D cl5 (wI g k L (rel L u i)) H := hP
  have hD9 : va_D A (wI g k L (rel L u i)) := hD
  exact W.vret hx hb hr (fun tt9 ht9 hW9 => ⟨⟨(), rfl, trivial, ⟨by rw [ht9]; exact hP9, hD9⟩⟩, hS.F ht9⟩) hS.2.2 d_Inodes_release_19
end
section
/-! THE DIRECTORIES: entries by their places. -/
/-- entryNamed: n entries from offset t on -/
def enG (L : Nat) (a : Nat → Int64) (d w : Nat) : Nat → Nat → Int32
  | 0, _ => -1
  | n + 1, t => if pN L a (plc L a d t) = w then plc L a d t else enG L a d w n (t + 4)
def ent (L : Nat) (a : Nat → Int64) (d w : Nat) : Int32 := enG L a d w ((iS L a d + 3 - 0) / 4) 0
def ino (L : Nat) (a : Nat → Int64) (x : Int32) : Nat := bN L a (x + nI 2)
theorem ino_lt (L : Nat) (a : Nat → Int64) (x : Int32) : ino L a x < 256 := bN_lt _ _ _
/-- isEmpty -/
def emG (L : Nat) (a : Nat → Int64) (d : Nat) : Nat → Nat → Bool
  | 0, _ => true
  | n + 1, t => if pN L a (plc L a d t) = 0 then emG L a d n (t + 4) else false
def emp (L : Nat) (a : Nat → Int64) (d : Nat) : Bool := emG L a d ((iS L a d + 3 - 0) / 4) 0
/-- setEntry -/
def stE (L : Nat) (u : DSt) (x w i : Int32) : DSt := setB L (setP L u x w) (x + nI 2) i
/-- addEntry -/
def adE (L : Nat) (u : DSt) (d : Nat) (w i : Int32) : Bool × DSt :=
  if ent L (dNow u) d 0 = -1 then
    if (rsz L u d (iS L (dNow u) d + 64)).1 = true then (true, stE L (rsz L u d (iS L (dNow u) d + 64)).2 (plc L (dNow (rsz L u d (iS L (dNow u) d + 64)).2) d (iS L (dNow u) d)) w i)
    else (false, (rsz L u d (iS L (dNow u) d + 64)).2)
  else (true, stE L u (ent L (dNow u) d 0) w i)
/-- fillParents: the entries of one directory; all directories -/
def fiG (L : Nat) (a : Nat → Int64) (d : Nat) : Nat → Nat → (Nat → Int32) → (Nat → Int32)
  | 0, _, f => f
  | n + 1, t, f => fiG L a d n (t + 4) (if 0 < ino L a (plc L a d t) ∧ ino L a (plc L a d t) < 64 then va_up f (ino L a (plc L a d t)) (nI d) else f)
def fsz (L : Nat) (a : Nat → Int64) (d : Nat) : Nat := if iK L a d = 2 then iS L a d else 0
theorem fsz_lt (L : Nat) (a : Nat → Int64) (d : Nat) : fsz L a d < 65536 := by
  unfold fsz; split
  · exact iS_lt _ _ _
  · decide
def foG (L : Nat) (a : Nat → Int64) : Nat → Nat → (Nat → Int32) → (Nat → Int32)
  | 0, _, f => f
  | n + 1, d, f => foG L a n (d + 1) (fiG L a d ((fsz L a d + 3 - 0) / 4) 0 f)
def fil (L : Nat) (a : Nat → Int64) (f : Nat → Int32) : Nat → Int32 := foG L a 64 0 f
/-- isWithin: n levels more -/
def wiG (f : Nat → Int32) (o : Int32) : Nat → Int32 → Int32
  | 0, x => x
  | n + 1, x => if x = 0 ∨ x = o then x else wiG f o n (if 0 < x ∧ x < nI 64 then f x.toNatClampNeg else nI 0)
def wit (L : Nat) (a : Nat → Int64) (f : Nat → Int32) (d : Nat) (o : Int32) : Bool := decide (wiG (fil L a f) o 64 (nI d) = o)
end
section
theorem d_Dirs_entryNamed_0 : decode b_Dirs_entryNamed 0 = .ok (.aload_n 0, 1) := by decide +kernel
theorem d_Dirs_entryNamed_1 : decode b_Dirs_entryNamed 1 = .ok (.getfield 15, 3) := by decide +kernel
theorem d_Dirs_entryNamed_4 : decode b_Dirs_entryNamed 4 = .ok (.iload_n 1, 1) := by decide +kernel
theorem d_Dirs_entryNamed_5 : decode b_Dirs_entryNamed 5 = .ok (.invokevirtual 23, 3) := by decide +kernel
theorem d_Dirs_entryNamed_8 : decode b_Dirs_entryNamed 8 = .ok (.istore_n 3, 1) := by decide +kernel
theorem d_Dirs_entryNamed_9 : decode b_Dirs_entryNamed 9 = .ok (.iconst 0, 1) := by decide +kernel
theorem d_Dirs_entryNamed_10 : decode b_Dirs_entryNamed 10 = .ok (.istore 4, 2) := by decide +kernel
theorem d_Dirs_entryNamed_12 : decode b_Dirs_entryNamed 12 = .ok (.iload 4, 2) := by decide +kernel
theorem d_Dirs_entryNamed_14 : decode b_Dirs_entryNamed 14 = .ok (.iload_n 3, 1) := by decide +kernel
theorem d_Dirs_entryNamed_15 : decode b_Dirs_entryNamed 15 = .ok (.if_icmp .ge 37, 3) := by decide +kernel
theorem d_Dirs_entryNamed_18 : decode b_Dirs_entryNamed 18 = .ok (.aload_n 0, 1) := by decide +kernel
theorem d_Dirs_entryNamed_19 : decode b_Dirs_entryNamed 19 = .ok (.getfield 15, 3) := by decide +kernel
theorem d_Dirs_entryNamed_22 : decode b_Dirs_entryNamed 22 = .ok (.iload_n 1, 1) := by decide +kernel
theorem d_Dirs_entryNamed_23 : decode b_Dirs_entryNamed 23 = .ok (.iload 4, 2) := by decide +kernel
theorem d_Dirs_entryNamed_25 : decode b_Dirs_entryNamed 25 = .ok (.invokevirtual 29, 3) := by decide +kernel
theorem d_Dirs_entryNamed_28 : decode b_Dirs_entryNamed 28 = .ok (.istore 5, 2) := by decide +kernel
theorem d_Dirs_entryNamed_30 : decode b_Dirs_entryNamed 30 = .ok (.aload_n 0, 1) := by decide +kernel
theorem d_Dirs_entryNamed_31 : decode b_Dirs_entryNamed 31 = .ok (.getfield 9, 3) := by decide +kernel
theorem d_Dirs_entryNamed_34 : decode b_Dirs_entryNamed 34 = .ok (.iload 5, 2) := by decide +kernel
theorem d_Dirs_entryNamed_36 : decode b_Dirs_entryNamed 36 = .ok (.invokevirtual 33, 3) := by decide +kernel
theorem d_Dirs_entryNamed_39 : decode b_Dirs_entryNamed 39 = .ok (.iload_n 2, 1) := by decide +kernel
theorem d_Dirs_entryNamed_40 : decode b_Dirs_entryNamed 40 = .ok (.if_icmp .ne 6, 3) := by decide +kernel
theorem d_Dirs_entryNamed_43 : decode b_Dirs_entryNamed 43 = .ok (.iload 5, 2) := by decide +kernel
theorem d_Dirs_entryNamed_45 : decode b_Dirs_entryNamed 45 = .ok (.ireturn, 1) := by decide +kernel
theorem d_Dirs_entryNamed_46 : decode b_Dirs_entryNamed 46 = .ok (.iinc 4 4, 3) := by decide +kernel
theorem d_Dirs_entryNamed_49 : decode b_Dirs_entryNamed 49 = .ok (.goto (-37), 3) := by decide +kernel
theorem d_Dirs_entryNamed_52 : decode b_Dirs_entryNamed 52 = .ok (.iconst (-1), 1) := by decide +kernel
theorem d_Dirs_entryNamed_53 : decode b_Dirs_entryNamed 53 = .ok (.ireturn, 1) := by decide +kernel
set_option maxHeartbeats 4000000 in
set_option maxRecDepth 100000 in
theorem c_Dirs_entryNamed (l : Launch) (D : va_G) (g : Nat → Nat) (k : Nat → ClassId) (L : Nat) (hL0 : 96 ≤ L) (hL : L ≤ 768) (u : DSt) (f0 : Nat → Int32) (d w : Nat) (hw0 : w < 65536) : RoI l y_Dirs_entryNamed w_Dirs_entryNamed ({ frames := 4, cells := 0, slots := 0, locals := 90 }) [.ref (g 7), .int (nI d), .int (nI w)] (RoP D cl5 (tyC k) (wR g k L u f0)) (ent L (dNow u) d w) := by
  refine Met.ofW (cc := b_Dirs_entryNamed) (maxL := 6) (ret := (some .int)) (by decide) rfl ?_
  intro p e s m args below meth c s₁ B hml hv
  obtain ⟨rfl, hP, hK⟩ := hv
  have hx := B.exec
  have hb := B.bytes
  have hr := B.returns
  have hts := atoms_spec (ws := w_Dirs_entryNamed) B.pre
  have hTB : ∀ w ∈ lw_tb, w.before _ s = true := fun w h => hts w (List.mem_cons_of_mem _ h)
  have hown : s.vm.findClass R_Dirs = some m.cls := findClass_of_methodNamed B.named
  have hlocks := B.notSynchronized
  have hS : va_S (fun _ => False) s.heap s.heap [] := va_S.rf
  have hl := lv_entry ([.ref (g 7), .int (nI d), .int (nI w)]) (n := 6) (Nat.le_of_ble_eq_true rfl)
  rw [lg_entry_eq]
  generalize (lg_sl ([.ref (g 7), .int (nI d), .int (nI w)]) ++ List.replicate (6 - (lg_sl ([.ref (g 7), .int (nI d), .int (nI w)])).length) Slot.unset).toArray = ls at hl ⊢
  have hl : lv_has ls 6 [(0, .ref (g 7)), (1, .int (nI d)), (2, .int (nI w))] := hl
  refine lv_aload_n hx hb d_Dirs_entryNamed_0 rfl (lv_at hl 0 rfl) ?_
  refine va_get (D := D) (ci := 0) (v := .ref (g 6)) (C := R_Dirs) (T := T_Dirs) (N := 3) hx hb hTB in_Dirs hown hK hP 0 rfl rfl 1 (by decide) (hTB _ k_133) (fun _ h9 => h9) rfl d_Dirs_entryNamed_1 ?_
  refine lv_iload_n hx hb d_Dirs_entryNamed_4 rfl (lv_at hl 1 rfl) ?_
  refine gz_roV (As := [.int (nI d)]) (rest := []) (wc := (wI g k L u)) ⟨hx, hb, hml, hown, hTB⟩ (c_Inodes_size l D g k L hL0 hL u d) (cwV 1 hTB (gd_V k_352 k_353 k_354 k_54 k_355) rfl rfl rfl (by decide +kernel) ⟨Nat.le_of_ble_eq_true rfl, Nat.le_of_ble_eq_true rfl⟩) hK hP [2, 3, 4, 5, 6, 7, 8] rfl 2 rfl rfl rfl hl.1 rfl (Nat.le_of_ble_eq_true rfl) d_Dirs_entryNamed_5 ⟨Nat.zero_le _, Nat.zero_le _⟩ hS (fun H locs hP hS => ?_)
  have := iS_lt L (dNow u) d
  refine lv_istore_n (lv' := [(3, .int (nI (iS L (dNow u) d))), (0, .ref (g 7)), (1, .int (nI d)), (2, .int (nI w))]) hx hb d_Dirs_entryNamed_8 rfl hl (by decide) rfl (fun ls hl => ?_)
  refine lv_iconst (v := nI 0) hx hb d_Dirs_entryNamed_9 (by decide +kernel) ?_
  refine lv_istore (lv' := [(4, .int (nI 0)), (3, .int (nI (iS L (dNow u) d))), (0, .ref (g 7)), (1, .int (nI d)), (2, .int (nI w))]) hx hb d_Dirs_entryNamed_10 hl (by decide) rfl (fun ls hl => ?_)
  refine gz_loop 12 (fun (zz : Nat) H locs ls => match zz with | t => va_P D cl5 (wR g k L u f0) H ∧ va_S (fun _ => False) s.heap H locs ∧ lv_has ls 6 [(0, .ref (g 7)), (1, .int (nI d)), (2, .int (nI w)), (3, .int (nI (iS L (dNow u) d))), (4, .int (nI t))] ∧ (t ≤ iS L (dNow u) d + 3) ∧ (enG L (dNow u) d w ((iS L (dNow u) d + 3 - t) / 4) t = ent L (dNow u) d w)) (fun (zz : Nat) => match zz with | t => iS L (dNow u) d + 3 - t) (fun zz H locs ls hI ih12 => ?_) (0) ⟨hP, hS, lv_sub hl [2, 3, 4, 1, 0] rfl, (by omega), rfl⟩
  obtain ⟨t, rfl⟩ : ∃ z, z = zz := ⟨_, rfl⟩
  obtain ⟨hP, hS, hl, ht1, ht2⟩ := hI
  refine lv_iload hx hb d_Dirs_entryNamed_12 (lv_at hl 4 rfl) ?_
  refine lv_iload_n hx hb d_Dirs_entryNamed_14 rfl (lv_at hl 3 rfl) ?_
  refine gz_icmp_ge (tgt := 52) hx hb d_Dirs_entryNamed_15 (by decide) (by omega) (by omega) (fun h15 => ?_) (fun h15 => ?_)
  · refine lv_iconst (v := (-1)) hx hb d_Dirs_entryNamed_52 (by decide +kernel) ?_
    exact W.iret (v := (-1)) hx hb hr (fun tt9 ht9 hW9 => ⟨⟨_, (), rfl, (by rw [← ht2, show (iS L (dNow u) d + 3 - t) / 4 = 0 by omega]; rfl), trivial⟩, hS.F ht9⟩) hS.2.2 d_Dirs_entryNamed_53
  · refine lv_aload_n hx hb d_Dirs_entryNamed_18 rfl (lv_at hl 0 rfl) ?_
    refine va_get (D := D) (ci := 0) (v := .ref (g 6)) (C := R_Dirs) (T := T_Dirs) (N := 3) hx hb hTB in_Dirs hown hK hP 0 rfl rfl 1 (by decide) (hTB _ k_133) (fun _ h9 => h9) rfl d_Dirs_entryNamed_19 ?_
    refine lv_iload_n hx hb d_Dirs_entryNamed_22 rfl (lv_at hl 1 rfl) ?_
    refine lv_iload hx hb d_Dirs_entryNamed_23 (lv_at hl 4 rfl) ?_
    refine gz_roV (As := [.int (nI d), .int (nI t)]) (rest := []) (wc := (wI g k L u)) ⟨hx, hb, hml, hown, hTB⟩ (c_Inodes_placeOf l D g k L hL0 hL u d t (by omega)) (cwV 2 hTB (gd_V k_361 k_362 k_363 k_54 k_364) rfl rfl rfl (by decide +kernel) ⟨Nat.le_of_ble_eq_true rfl, Nat.le_of_ble_eq_true rfl⟩) hK hP [2, 3, 4, 5, 6, 7, 8] rfl 2 rfl rfl rfl hl.1 rfl (Nat.le_of_ble_eq_true rfl) d_Dirs_entryNamed_25 ⟨Nat.zero_le _, Nat.zero_le _⟩ hS (fun H locs hP hS => ?_)
    refine lv_istore (lv' := [(5, .int (plc L (dNow u) d t)), (0, .ref (g 7)), (1, .int (nI d)), (2, .int (nI w)), (3, .int (nI (iS L (dNow u) d))), (4, .int (nI t))]) hx hb d_Dirs_entryNamed_28 hl (by decide) rfl (fun ls hl => ?_)
    refine lv_aload_n hx hb d_Dirs_entryNamed_30 rfl (lv_at hl 1 rfl) ?_
    refine va_get (D := D) (ci := 0) (v := .ref (g 0)) (C := R_Dirs) (T := T_Dirs) (N := 3) hx hb hTB in_Dirs hown hK hP 0 rfl rfl 0 (by decide) (hTB _ k_132) (fun _ h9 => h9) rfl d_Dirs_entryNamed_31 ?_
    refine lv_iload hx hb d_Dirs_entryNamed_34 (lv_at hl 0 rfl) ?_
    refine gz_roV (As := [.int (plc L (dNow u) d t)]) (rest := []) (wc := (wD g k L u)) ⟨hx, hb, hml, hown, hTB⟩ (c_Disk_pairAt l D g k L hL0 hL u (plc L (dNow u) d t)) (cwV 1 hTB (gd_V k_380 k_357 k_358 k_52 k_359) rfl rfl rfl (by decide +kernel) ⟨Nat.le_of_ble_eq_true rfl, Nat.le_of_ble_eq_true rfl⟩) hK hP [3, 4, 5, 6, 7, 8] rfl 3 rfl rfl rfl hl.1 rfl (Nat.le_of_ble_eq_true rfl) d_Dirs_entryNamed_36 ⟨Nat.zero_le _, Nat.zero_le _⟩ hS (fun H locs hP hS => ?_)
    have := pN_lt L (dNow u) (plc L (dNow u) d t)
    refine lv_iload_n hx hb d_Dirs_entryNamed_39 rfl (lv_at hl 3 rfl) ?_
    refine gz_icmp_ne (tgt := 46) hx hb d_Dirs_entryNamed_40 (by decide) (by omega) (by omega) (fun h40 => ?_) (fun h40 => ?_)
    · refine lv_iinc (v := nI (t + 4)) (lv' := [(4, .int (nI (t + 4))), (5, .int (plc L (dNow u) d t)), (0, .ref (g 7)), (1, .int (nI d)), (2, .int (nI w)), (3, .int (nI (iS L (dNow u) d)))]) hx hb d_Dirs_entryNamed_46 hl (k := 5) rfl (nI_add t 4) (by decide) rfl (fun ls hl => ?_)
      refine lv_goto (tgt := 12) hx hb d_Dirs_entryNamed_49 (by decide) ?_
      exact ih12 (t + 4) _ _ _ (by first | omega | (dsimp only; omega)) ⟨hP, hS, lv_sub hl [2, 3, 4, 5, 0] rfl, (by omega), (by rw [← ht2, show (iS L (dNow u) d + 3 - t) / 4 = (iS L (dNow u) d + 3 - (t + 4)) / 4 + 1 by omega, enG, if_neg h40])⟩
    · refine lv_iload hx hb d_Dirs_entryNamed_43 (lv_at hl 0 rfl) ?_
      exact W.iret (v := plc L (dNow u) d t) hx hb hr (fun tt9 ht9 hW9 => ⟨⟨_, (), rfl, (by rw [← ht2, show (iS L (dNow u) d + 3 - t) / 4 = (iS L (dNow u) d + 3 - (t + 4)) / 4 + 1 by omega, enG, if_pos h40]), trivial⟩, hS.F ht9⟩) hS.2.2 d_Dirs_entryNamed_45
theorem d_Dirs_inodeOf_0 : decode b_Dirs_inodeOf 0 = .ok (.aload_n 0, 1) := by decide +kernel
theorem d_Dirs_inodeOf_1 : decode b_Dirs_inodeOf 1 = .ok (.getfield 9, 3) := by decide +kernel
theorem d_Dirs_inodeOf_4 : decode b_Dirs_inodeOf 4 = .ok (.iload_n 1, 1) := by decide +kernel
theorem d_Dirs_inodeOf_5 : decode b_Dirs_inodeOf 5 = .ok (.iconst 2, 1) := by decide +kernel
theorem d_Dirs_inodeOf_6 : decode b_Dirs_inodeOf 6 = .ok (.iadd, 1) := by decide +kernel
theorem d_Dirs_inodeOf_7 : decode b_Dirs_inodeOf 7 = .ok (.invokevirtual 38, 3) := by decide +kernel
theorem d_Dirs_inodeOf_10 : decode b_Dirs_inodeOf 10 = .ok (.ireturn, 1) := by decide +kernel
set_option maxHeartbeats 4000000 in
set_option maxRecDepth 100000 in
theorem c_Dirs_inodeOf (l : Launch) (D : va_G) (g : Nat → Nat) (k : Nat → ClassId) (L : Nat) (hL0 : 96 ≤ L) (hL : L ≤ 768) (u : DSt) (f0 : Nat → Int32) (x : Int32) : RoI l y_Dirs_inodeOf w_Dirs_inodeOf ({ frames := 1, cells := 0, slots := 0, locals := 21 }) [.ref (g 7), .int (x)] (RoP D cl5 (tyC k) (wR g k L u f0)) (nI (ino L (dNow u) x)) := by
  refine Met.ofW (cc := b_Dirs_inodeOf) (maxL := 2) (ret := (some .int)) (by decide) rfl ?_
  intro p e s m args below meth c s₁ B hml hv
  obtain ⟨rfl, hP, hK⟩ := hv
  have hx := B.exec
  have hb := B.bytes
  have hr := B.returns
  have hts := atoms_spec (ws := w_Dirs_inodeOf) B.pre
  have hTB : ∀ w ∈ lw_tb, w.before _ s = true := fun w h => hts w (List.mem_cons_of_mem _ h)
  have hown : s.vm.findClass R_Dirs = some m.cls := findClass_of_methodNamed B.named
  have hlocks := B.notSynchronized
  have hS : va_S (fun _ => False) s.heap s.heap [] := va_S.rf
  have hl := lv_entry ([.ref (g 7), .int (x)]) (n := 2) (Nat.le_of_ble_eq_true rfl)
  rw [lg_entry_eq]
  generalize (lg_sl ([.ref (g 7), .int (x)]) ++ List.replicate (2 - (lg_sl ([.ref (g 7), .int (x)])).length) Slot.unset).toArray = ls at hl ⊢
  have hl : lv_has ls 2 [(0, .ref (g 7)), (1, .int (x))] := hl
  refine lv_aload_n hx hb d_Dirs_inodeOf_0 rfl (lv_at hl 0 rfl) ?_
  refine va_get (D := D) (ci := 0) (v := .ref (g 0)) (C := R_Dirs) (T := T_Dirs) (N := 3) hx hb hTB in_Dirs hown hK hP 0 rfl rfl 0 (by decide) (hTB _ k_132) (fun _ h9 => h9) rfl d_Dirs_inodeOf_1 ?_
  refine lv_iload_n hx hb d_Dirs_inodeOf_4 rfl (lv_at hl 1 rfl) ?_
  refine lv_iconst (v := nI 2) hx hb d_Dirs_inodeOf_5 (by decide +kernel) ?_
  refine lv_iadd hx hb d_Dirs_inodeOf_6 ?_
  refine gz_roV (As := [.int (x + (nI 2))]) (rest := []) (wc := (wD g k L u)) ⟨hx, hb, hml, hown, hTB⟩ (c_Disk_byteAt l D g k L hL0 hL u (x + (nI 2))) (cwV 1 hTB (gd_V k_454 k_345 k_346 k_52 k_347) rfl rfl rfl (by decide +kernel) ⟨Nat.le_of_ble_eq_true rfl, Nat.le_of_ble_eq_true rfl⟩) hK hP [3, 4, 5, 6, 7, 8] rfl 3 rfl rfl rfl hl.1 rfl (Nat.le_of_ble_eq_true rfl) d_Dirs_inodeOf_7 ⟨Nat.zero_le _, Nat.zero_le _⟩ hS (fun H locs hP hS => ?_)
  have := bN_lt L (dNow u) (x + (nI 2))
  exact W.iret (v := nI (bN L (dNow u) (x + (nI 2)))) hx hb hr (fun tt9 ht9 hW9 => ⟨⟨_, (), rfl, rfl, trivial⟩, hS.F ht9⟩) hS.2.2 d_Dirs_inodeOf_10
theorem d_Dirs_isEmpty_0 : decode b_Dirs_isEmpty 0 = .ok (.aload_n 0, 1) := by decide +kernel
theorem d_Dirs_isEmpty_1 : decode b_Dirs_isEmpty 1 = .ok (.getfield 15, 3) := by decide +kernel
theorem d_Dirs_isEmpty_4 : decode b_Dirs_isEmpty 4 = .ok (.iload_n 1, 1) := by decide +kernel
theorem d_Dirs_isEmpty_5 : decode b_Dirs_isEmpty 5 = .ok (.invokevirtual 23, 3) := by decide +kernel
theorem d_Dirs_isEmpty_8 : decode b_Dirs_isEmpty 8 = .ok (.istore_n 2, 1) := by decide +kernel
theorem d_Dirs_isEmpty_9 : decode b_Dirs_isEmpty 9 = .ok (.iconst 0, 1) := by decide +kernel
theorem d_Dirs_isEmpty_10 : decode b_Dirs_isEmpty 10 = .ok (.istore_n 3, 1) := by decide +kernel
theorem d_Dirs_isEmpty_11 : decode b_Dirs_isEmpty 11 = .ok (.iload_n 3, 1) := by decide +kernel
theorem d_Dirs_isEmpty_12 : decode b_Dirs_isEmpty 12 = .ok (.iload_n 2, 1) := by decide +kernel
theorem d_Dirs_isEmpty_13 : decode b_Dirs_isEmpty 13 = .ok (.if_icmp .ge 30, 3) := by decide +kernel
theorem d_Dirs_isEmpty_16 : decode b_Dirs_isEmpty 16 = .ok (.aload_n 0, 1) := by decide +kernel
theorem d_Dirs_isEmpty_17 : decode b_Dirs_isEmpty 17 = .ok (.getfield 9, 3) := by decide +kernel
theorem d_Dirs_isEmpty_20 : decode b_Dirs_isEmpty 20 = .ok (.aload_n 0, 1) := by decide +kernel
theorem d_Dirs_isEmpty_21 : decode b_Dirs_isEmpty 21 = .ok (.getfield 15, 3) := by decide +kernel
theorem d_Dirs_isEmpty_24 : decode b_Dirs_isEmpty 24 = .ok (.iload_n 1, 1) := by decide +kernel
theorem d_Dirs_isEmpty_25 : decode b_Dirs_isEmpty 25 = .ok (.iload_n 3, 1) := by decide +kernel
theorem d_Dirs_isEmpty_26 : decode b_Dirs_isEmpty 26 = .ok (.invokevirtual 29, 3) := by decide +kernel
theorem d_Dirs_isEmpty_29 : decode b_Dirs_isEmpty 29 = .ok (.invokevirtual 33, 3) := by decide +kernel
theorem d_Dirs_isEmpty_32 : decode b_Dirs_isEmpty 32 = .ok (.ifCond .eq 5, 3) := by decide +kernel
theorem d_Dirs_isEmpty_35 : decode b_Dirs_isEmpty 35 = .ok (.iconst 0, 1) := by decide +kernel
theorem d_Dirs_isEmpty_36 : decode b_Dirs_isEmpty 36 = .ok (.ireturn, 1) := by decide +kernel
theorem d_Dirs_isEmpty_37 : decode b_Dirs_isEmpty 37 = .ok (.iinc 3 4, 3) := by decide +kernel
theorem d_Dirs_isEmpty_40 : decode b_Dirs_isEmpty 40 = .ok (.goto (-29), 3) := by decide +kernel
theorem d_Dirs_isEmpty_43 : decode b_Dirs_isEmpty 43 = .ok (.iconst 1, 1) := by decide +kernel
theorem d_Dirs_isEmpty_44 : decode b_Dirs_isEmpty 44 = .ok (.ireturn, 1) := by decide +kernel
set_option maxHeartbeats 4000000 in
set_option maxRecDepth 100000 in
theorem c_Dirs_isEmpty (l : Launch) (D : va_G) (g : Nat → Nat) (k : Nat → ClassId) (L : Nat) (hL0 : 96 ≤ L) (hL : L ≤ 768) (u : DSt) (f0 : Nat → Int32) (d : Nat) : RoI l y_Dirs_isEmpty w_Dirs_isEmpty ({ frames := 4, cells := 0, slots := 0, locals := 90 }) [.ref (g 7), .int (nI d)] (RoP D cl5 (tyC k) (wR g k L u f0)) (zI (emp L (dNow u) d)) := by
  refine Met.ofW (cc := b_Dirs_isEmpty) (maxL := 4) (ret := (some .boolean)) (by decide) rfl ?_
  intro p e s m args below meth c s₁ B hml hv
  obtain ⟨rfl, hP, hK⟩ := hv
  have hx := B.exec
  have hb := B.bytes
  have hr := B.returns
  have hts := atoms_spec (ws := w_Dirs_isEmpty) B.pre
  have hTB : ∀ w ∈ lw_tb, w.before _ s = true := fun w h => hts w (List.mem_cons_of_mem _ h)
  have hown : s.vm.findClass R_Dirs = some m.cls := findClass_of_methodNamed B.named
  have hlocks := B.notSynchronized
  have hS : va_S (fun _ => False) s.heap s.heap [] := va_S.rf
  have hl := lv_entry ([.ref (g 7), .int (nI d)]) (n := 4) (Nat.le_of_ble_eq_true rfl)
  rw [lg_entry_eq]
  generalize (lg_sl ([.ref (g 7), .int (nI d)]) ++ List.replicate (4 - (lg_sl ([.ref (g 7), .int (nI d)])).length) Slot.unset).toArray = ls at hl ⊢
  have hl : lv_has ls 4 [(0, .ref (g 7)), (1, .int (nI d))] := hl
  refine lv_aload_n hx hb d_Dirs_isEmpty_0 rfl (lv_at hl 0 rfl) ?_
  refine va_get (D := D) (ci := 0) (v := .ref (g 6)) (C := R_Dirs) (T := T_Dirs) (N := 3) hx hb hTB in_Dirs hown hK hP 0 rfl rfl 1 (by decide) (hTB _ k_133) (fun _ h9 => h9) rfl d_Dirs_isEmpty_1 ?_
  refine lv_iload_n hx hb d_Dirs_isEmpty_4 rfl (lv_at hl 1 rfl) ?_
  refine gz_roV (As := [.int (nI d)]) (rest := []) (wc := (wI g k L u)) ⟨hx, hb, hml, hown, hTB⟩ (c_Inodes_size l D g k L hL0 hL u d) (cwV 1 hTB (gd_V k_352 k_353 k_354 k_54 k_355) rfl rfl rfl (by decide +kernel) ⟨Nat.le_of_ble_eq_true rfl, Nat.le_of_ble_eq_true rfl⟩) hK hP [2, 3, 4, 5, 6, 7, 8] rfl 2 rfl rfl rfl hl.1 rfl (Nat.le_of_ble_eq_true rfl) d_Dirs_isEmpty_5 ⟨Nat.zero_le _, Nat.zero_le _⟩ hS (fun H locs hP hS => ?_)
  have := iS_lt L (dNow u) d
  refine lv_istore_n (lv' := [(2, .int (nI (iS L (dNow u) d))), (0, .ref (g 7)), (1, .int (nI d))]) hx hb d_Dirs_isEmpty_8 rfl hl (by decide) rfl (fun ls hl => ?_)
  refine lv_iconst (v := nI 0) hx hb d_Dirs_isEmpty_9 (by decide +kernel) ?_
  refine lv_istore_n (lv' := [(3, .int (nI 0)), (2, .int (nI (iS L (dNow u) d))), (0, .ref (g 7)), (1, .int (nI d))]) hx hb d_Dirs_isEmpty_10 rfl hl (by decide) rfl (fun ls hl => ?_)
  refine gz_loop 11 (fun (zz : Nat) H locs ls => match zz with | t => va_P D cl5 (wR g k L u f0) H ∧ va_S (fun _ => False) s.heap H locs ∧ lv_has ls 4 [(0, .ref (g 7)), (1, .int (nI d)), (2, .int (nI (iS L (dNow u) d))), (3, .int (nI t))] ∧ (t ≤ iS L (dNow u) d + 3) ∧ (emG L (dNow u) d ((iS L (dNow u) d + 3 - t) / 4) t = emp L (dNow u) d)) (fun (zz : Nat) => match zz with | t => iS L (dNow u) d + 3 - t) (fun zz H locs ls hI ih11 => ?_) (0) ⟨hP, hS, lv_sub hl [2, 3, 1, 0] rfl, (by omega), rfl⟩
  obtain ⟨t, rfl⟩ : ∃ z, z = zz := ⟨_, rfl⟩
  obtain ⟨hP, hS, hl, ht1, ht2⟩ := hI
  refine lv_iload_n hx hb d_Dirs_isEmpty_11 rfl (lv_at hl 3 rfl) ?_
  refine lv_iload_n hx hb d_Dirs_isEmpty_12 rfl (lv_at hl 2 rfl) ?_
  refine gz_icmp_ge (tgt := 43) hx hb d_Dirs_isEmpty_13 (by decide) (by omega) (by omega) (fun h13 => ?_) (fun h13 => ?_)
  · refine lv_iconst (v := nI 1) hx hb d_Dirs_isEmpty_43 (by decide +kernel) ?_
    exact W.zret (v := nI 1) (ty := .boolean) hx hb hr (by decide +kernel) (fun tt9 ht9 hW9 => ⟨⟨_, (), rfl, (by rw [← ht2, show (iS L (dNow u) d + 3 - t) / 4 = 0 by omega]; rfl), trivial⟩, hS.F ht9⟩) hS.2.2 d_Dirs_isEmpty_44
  · refine lv_aload_n hx hb d_Dirs_isEmpty_16 rfl (lv_at hl 0 rfl) ?_
    refine va_get (D := D) (ci := 0) (v := .ref (g 0)) (C := R_Dirs) (T := T_Dirs) (N := 3) hx hb hTB in_Dirs hown hK hP 0 rfl rfl 0 (by decide) (hTB _ k_132) (fun _ h9 => h9) rfl d_Dirs_isEmpty_17 ?_
    refine lv_aload_n hx hb d_Dirs_isEmpty_20 rfl (lv_at hl 0 rfl) ?_
    refine va_get (D := D) (ci := 0) (v := .ref (g 6)) (C := R_Dirs) (T := T_Dirs) (N := 3) hx hb hTB in_Dirs hown hK hP 0 rfl rfl 1 (by decide) (hTB _ k_133) (fun _ h9 => h9) rfl d_Dirs_isEmpty_21 ?_
    refine lv_iload_n hx hb d_Dirs_isEmpty_24 rfl (lv_at hl 1 rfl) ?_
    refine lv_iload_n hx hb d_Dirs_isEmpty_25 rfl (lv_at hl 3 rfl) ?_
    refine gz_roV (As := [.int (nI d), .int (nI t)]) (rest := [.ref (g 0)]) (wc := (wI g k L u)) ⟨hx, hb, hml, hown, hTB⟩ (c_Inodes_placeOf l D g k L hL0 hL u d t (by omega)) (cwV 2 hTB (gd_V k_361 k_362 k_363 k_54 k_364) rfl rfl rfl (by decide +kernel) ⟨Nat.le_of_ble_eq_true rfl, Nat.le_of_ble_eq_true rfl⟩) hK hP [2, 3, 4, 5, 6, 7, 8] rfl 2 rfl rfl rfl hl.1 rfl (Nat.le_of_ble_eq_true rfl) d_Dirs_isEmpty_26 ⟨Nat.zero_le _, Nat.zero_le _⟩ hS (fun H locs hP hS => ?_)
    refine gz_roV (As := [.int (plc L (dNow u) d t)]) (rest := []) (wc := (wD g k L u)) ⟨hx, hb, hml, hown, hTB⟩ (c_Disk_pairAt l D g k L hL0 hL u (plc L (dNow u) d t)) (cwV 1 hTB (gd_V k_380 k_357 k_358 k_52 k_359) rfl rfl rfl (by decide +kernel) ⟨Nat.le_of_ble_eq_true rfl, Nat.le_of_ble_eq_true rfl⟩) hK hP [3, 4, 5, 6, 7, 8] rfl 3 rfl rfl rfl hl.1 rfl (Nat.le_of_ble_eq_true rfl) d_Dirs_isEmpty_29 ⟨Nat.zero_le _, Nat.zero_le _⟩ hS (fun H locs hP hS => ?_)
    have := pN_lt L (dNow u) (plc L (dNow u) d t)
    refine gz_if_eq (tgt := 37) hx hb d_Dirs_isEmpty_32 (by decide) (by omega) (fun h32 => ?_) (fun h32 => ?_)
    · refine lv_iinc (v := nI (t + 4)) (lv' := [(3, .int (nI (t + 4))), (0, .ref (g 7)), (1, .int (nI d)), (2, .int (nI (iS L (dNow u) d)))]) hx hb d_Dirs_isEmpty_37 hl (k := 3) rfl (nI_add t 4) (by decide) rfl (fun ls hl => ?_)
      refine lv_goto (tgt := 11) hx hb d_Dirs_isEmpty_40 (by decide) ?_
      exact ih11 (t + 4) _ _ _ (by first | omega | (dsimp only; omega)) ⟨hP, hS, lv_sub hl [1, 2, 3, 0] rfl, (by omega), (by rw [← ht2, show (iS L (dNow u) d + 3 - t) / 4 = (iS L (dNow u) d + 3 - (t + 4)) / 4 + 1 by omega, emG, if_pos h32])⟩
    · refine lv_iconst (v := nI 0) hx hb d_Dirs_isEmpty_35 (by decide +kernel) ?_
      exact W.zret (v := nI 0) (ty := .boolean) hx hb hr (by decide +kernel) (fun tt9 ht9 hW9 => ⟨⟨_, (), rfl, (by rw [← ht2, show (iS L (dNow u) d + 3 - t) / 4 = (iS L (dNow u) d + 3 - (t + 4)) / 4 + 1 by omega, emG, if_neg h32]; rfl), trivial⟩, hS.F ht9⟩) hS.2.2 d_Dirs_isEmpty_36
theorem d_Dirs_setEntry_0 : decode b_Dirs_setEntry 0 = .ok (.aload_n 0, 1) := by decide +kernel
theorem d_Dirs_setEntry_1 : decode b_Dirs_setEntry 1 = .ok (.getfield 9, 3) := by decide +kernel
theorem d_Dirs_setEntry_4 : decode b_Dirs_setEntry 4 = .ok (.iload_n 1, 1) := by decide +kernel
theorem d_Dirs_setEntry_5 : decode b_Dirs_setEntry 5 = .ok (.iload_n 2, 1) := by decide +kernel
theorem d_Dirs_setEntry_6 : decode b_Dirs_setEntry 6 = .ok (.invokevirtual 52, 3) := by decide +kernel
theorem d_Dirs_setEntry_9 : decode b_Dirs_setEntry 9 = .ok (.aload_n 0, 1) := by decide +kernel
theorem d_Dirs_setEntry_10 : decode b_Dirs_setEntry 10 = .ok (.getfield 9, 3) := by decide +kernel
theorem d_Dirs_setEntry_13 : decode b_Dirs_setEntry 13 = .ok (.iload_n 1, 1) := by decide +kernel
theorem d_Dirs_setEntry_14 : decode b_Dirs_setEntry 14 = .ok (.iconst 2, 1) := by decide +kernel
theorem d_Dirs_setEntry_15 : decode b_Dirs_setEntry 15 = .ok (.iadd, 1) := by decide +kernel
theorem d_Dirs_setEntry_16 : decode b_Dirs_setEntry 16 = .ok (.iload_n 3, 1) := by decide +kernel
theorem d_Dirs_setEntry_17 : decode b_Dirs_setEntry 17 = .ok (.invokevirtual 56, 3) := by decide +kernel
theorem d_Dirs_setEntry_20 : decode b_Dirs_setEntry 20 = .ok (.return_, 1) := by decide +kernel
set_option maxHeartbeats 4000000 in
set_option maxRecDepth 100000 in
theorem c_Dirs_setEntry (l : Launch) (D : va_G) (g : Nat → Nat) (k : Nat → ClassId) (L : Nat) (hL0 : 96 ≤ L) (hL : L ≤ 768) (u : DSt) (f0 : Nat → Int32) (x w i : Int32) : MuV l y_Dirs_setEntry w_Dirs_setEntry ({ frames := 4, cells := 0, slots := 0, locals := 128 }) [.ref (g 7), .int (x), .int (w), .int (i)] D cl5 (tyC k) (wR g k L u f0) (wR g k L (stE L u x w i) f0) := by
  intro sz
  refine Met.ofW (cc := b_Dirs_setEntry) (maxL := 4) (ret := none) (by decide) rfl ?_
  intro p e s m args below meth c s₁ B hml hv
  obtain ⟨rfl, hsz, hP, hK, hD0⟩ := hv
  have hx := B.exec
  have hb := B.bytes
  have hr := B.returns
  have hts := atoms_spec (ws := w_Dirs_setEntry) B.pre
  have hTB : ∀ w ∈ lw_tb, w.before _ s = true := fun w h => hts w (List.mem_cons_of_mem _ h)
  have hown : s.vm.findClass R_Dirs = some m.cls := findClass_of_methodNamed B.named
  have hlocks := B.notSynchronized
  subst hsz
  have hD := hD0.self (sz := s.heap.size)
  generalize hAe : va_A (wR g k L u f0) s.heap.size = A at hD ⊢
  have hA : ∀ q : Nat, s.heap.size ≤ q → A q := fun q h => by rw [← hAe]; exact Or.inr h
  have hS : va_S A s.heap s.heap [] := va_S.rf
  have hl := lv_entry ([.ref (g 7), .int (x), .int (w), .int (i)]) (n := 4) (Nat.le_of_ble_eq_true rfl)
  rw [lg_entry_eq]
  generalize (lg_sl ([.ref (g 7), .int (x), .int (w), .int (i)]) ++ List.replicate (4 - (lg_sl ([.ref (g 7), .int (x), .int (w), .int (i)])).length) Slot.unset).toArray = ls at hl ⊢
  have hl : lv_has ls 4 [(0, .ref (g 7)), (1, .int (x)), (2, .int (w)), (3, .int (i))] := hl
  refine lv_aload_n hx hb d_Dirs_setEntry_0 rfl (lv_at hl 0 rfl) ?_
  refine va_get (D := D) (ci := 0) (v := .ref (g 0)) (C := R_Dirs) (T := T_Dirs) (N := 3) hx hb hTB in_Dirs hown hK hP 0 rfl rfl 0 (by decide) (hTB _ k_132) (fun _ h9 => h9) rfl d_Dirs_setEntry_1 ?_
  refine lv_iload_n hx hb d_Dirs_setEntry_4 rfl (lv_at hl 1 rfl) ?_
  refine lv_iload_n hx hb d_Dirs_setEntry_5 rfl (lv_at hl 2 rfl) ?_
  refine gz_muV (As := [.int (x), .int (w)]) (rest := []) (wc := (wD g k L u)) (w1 := (wD g k L (setP L u x w))) (wr := (hR g k f0 ++ hI g)) ⟨hx, hb, hml, hown, hTB⟩ (c_Disk_setPair l D g k L hL0 hL u x w) (cwV 2 hTB (gd_V k_433 k_413 k_414 k_52 k_415) rfl rfl rfl (by decide +kernel) ⟨Nat.le_of_ble_eq_true rfl, Nat.le_of_ble_eq_true rfl⟩) hK hP hD hA [3, 4, 5, 6, 7, 8] [0, 1, 2] rfl rfl (by decide) rfl (by decide) (by decide) 3 rfl rfl rfl hl.1 rfl (Nat.le_of_ble_eq_true rfl) d_Dirs_setEntry_6 ⟨Nat.zero_le _, Nat.zero_le _⟩ hS (fun H locs hP hD hS => ?_)
  have hP : va_P D cl5 (wR g k L (setP L u x w) f0) H := hP
  have hD : va_D A (wR g k L (setP L u x w) f0) := hD
  refine lv_aload_n hx hb d_Dirs_setEntry_9 rfl (lv_at hl 0 rfl) ?_
  refine va_get (D := D) (ci := 0) (v := .ref (g 0)) (C := R_Dirs) (T := T_Dirs) (N := 3) hx hb hTB in_Dirs hown hK hP 0 rfl rfl 0 (by decide) (hTB _ k_132) (fun _ h9 => h9) rfl d_Dirs_setEntry_10 ?_
  refine lv_iload_n hx hb d_Dirs_setEntry_13 rfl (lv_at hl 1 rfl) ?_
  refine lv_iconst (v := nI 2) hx hb d_Dirs_setEntry_14 (by decide +kernel) ?_
  refine lv_iadd hx hb d_Dirs_setEntry_15 ?_
  refine lv_iload_n hx hb d_Dirs_setEntry_16 rfl (lv_at hl 3 rfl) ?_
  refine gz_muV (As := [.int (x + (nI 2)), .int (i)]) (rest := []) (wc := (wD g k L (setP L u x w))) (w1 := (wD g k L (setB L (setP L u x w) (x + (nI 2)) i))) (wr := (hR g k f0 ++ hI g)) ⟨hx, hb, hml, hown, hTB⟩ (c_Disk_setByte l D g k L hL0 hL (setP L u x w) (x + (nI 2)) i) (cwV 2 hTB (gd_V k_434 k_151 k_152 k_52 k_153) rfl rfl rfl (by decide +kernel) ⟨Nat.le_of_ble_eq_true rfl, Nat.le_of_ble_eq_true rfl⟩) hK hP hD hA [3, 4, 5, 6, 7, 8] [0, 1, 2] rfl rfl (by decide) rfl (by decide) (by decide) 3 rfl rfl rfl hl.1 rfl (Nat.le_of_ble_eq_true rfl) d_Dirs_setEntry_17 ⟨Nat.zero_le _, Nat.zero_le _⟩ hS (fun H locs hP hD hS => ?_)
  have hP : va_P D cl5 (wR g k L (setB L (setP L u x w) (x + (nI 2)) i) f0) H := hP
  have hD : va_D A (wR g k L (setB L (setP L u x w) (x + (nI 2)) i) f0) := hD
  have hP9 : va_P D cl5 (wR g k L (stE L u x w i) f0) H := hP
  have hD9 : va_D A (wR g k L (stE L u x w i) f0) := hD
  exact W.vret hx hb hr (fun tt9 ht9 hW9 => ⟨⟨(), rfl, trivial, ⟨by rw [ht9]; exact hP9, hD9⟩⟩, hS.F ht9⟩) hS.2.2 d_Dirs_setEntry_20
theorem d_Dirs_clearEntry_0 : decode b_Dirs_clearEntry 0 = .ok (.aload_n 0, 1) := by decide +kernel
theorem d_Dirs_clearEntry_1 : decode b_Dirs_clearEntry 1 = .ok (.iload_n 1, 1) := by decide +kernel
theorem d_Dirs_clearEntry_2 : decode b_Dirs_clearEntry 2 = .ok (.iconst 0, 1) := by decide +kernel
theorem d_Dirs_clearEntry_3 : decode b_Dirs_clearEntry 3 = .ok (.iconst 0, 1) := by decide +kernel
theorem d_Dirs_clearEntry_4 : decode b_Dirs_clearEntry 4 = .ok (.invokevirtual 48, 3) := by decide +kernel
theorem d_Dirs_clearEntry_7 : decode b_Dirs_clearEntry 7 = .ok (.return_, 1) := by decide +kernel
set_option maxHeartbeats 4000000 in
set_option maxRecDepth 100000 in
theorem c_Dirs_clearEntry (l : Launch) (D : va_G) (g : Nat → Nat) (k : Nat → ClassId) (L : Nat) (hL0 : 96 ≤ L) (hL : L ≤ 768) (u : DSt) (f0 : Nat → Int32) (x : Int32) : MuV l y_Dirs_clearEntry w_Dirs_clearEntry ({ frames := 5, cells := 0, slots := 0, locals := 151 }) [.ref (g 7), .int (x)] D cl5 (tyC k) (wR g k L u f0) (wR g k L (stE L u x (nI 0) (nI 0)) f0) := by
  intro sz
  refine Met.ofW (cc := b_Dirs_clearEntry) (maxL := 2) (ret := none) (by decide) rfl ?_
  intro p e s m args below meth c s₁ B hml hv
  obtain ⟨rfl, hsz, hP, hK, hD0⟩ := hv
  have hx := B.exec
  have hb := B.bytes
  have hr := B.returns
  have hts := atoms_spec (ws := w_Dirs_clearEntry) B.pre
  have hTB : ∀ w ∈ lw_tb, w.before _ s = true := fun w h => hts w (List.mem_cons_of_mem _ h)
  have hown : s.vm.findClass R_Dirs = some m.cls := findClass_of_methodNamed B.named
  have hlocks := B.notSynchronized
  subst hsz
  have hD := hD0.self (sz := s.heap.size)
  generalize hAe : va_A (wR g k L u f0) s.heap.size = A at hD ⊢
  have hA : ∀ q : Nat, s.heap.size ≤ q → A q := fun q h => by rw [← hAe]; exact Or.inr h
  have hS : va_S A s.heap s.heap [] := va_S.rf
  have hl := lv_entry ([.ref (g 7), .int (x)]) (n := 2) (Nat.le_of_ble_eq_true rfl)
  rw [lg_entry_eq]
  generalize (lg_sl ([.ref (g 7), .int (x)]) ++ List.replicate (2 - (lg_sl ([.ref (g 7), .int (x)])).length) Slot.unset).toArray = ls at hl ⊢
  have hl : lv_has ls 2 [(0, .ref (g 7)), (1, .int (x))] := hl
  refine lv_aload_n hx hb d_Dirs_clearEntry_0 rfl (lv_at hl 0 rfl) ?_
  refine lv_iload_n hx hb d_Dirs_clearEntry_1 rfl (lv_at hl 1 rfl) ?_
  refine lv_iconst (v := nI 0) hx hb d_Dirs_clearEntry_2 (by decide +kernel) ?_
  refine lv_iconst (v := nI 0) hx hb d_Dirs_clearEntry_3 (by decide +kernel) ?_
  refine gz_muV (As := [.int (x), .int (nI 0), .int (nI 0)]) (rest := []) (wc := (wR g k L u f0)) (w1 := (wR g k L (stE L u x (nI 0) (nI 0)) f0)) (wr := ([])) ⟨hx, hb, hml, hown, hTB⟩ (c_Dirs_setEntry l D g k L hL0 hL u f0 x (nI 0) (nI 0)) (cwV 3 hTB (gd_V k_429 k_430 k_431 k_55 k_432) rfl rfl rfl (by decide +kernel) ⟨Nat.le_of_ble_eq_true rfl, Nat.le_of_ble_eq_true rfl⟩) hK hP hD hA [0, 1, 2, 3, 4, 5, 6, 7, 8] [] rfl rfl (by decide) rfl (by decide) (by decide) 0 rfl rfl rfl hl.1 rfl (Nat.le_of_ble_eq_true rfl) d_Dirs_clearEntry_4 ⟨Nat.zero_le _, Nat.zero_le _⟩ hS (fun H locs hP hD hS => ?_)
  have hP : va_P D cl5 (wR g k L (stE L u x (nI 0) (nI 0)) f0) H := hP
  have hD : va_D A (wR g k L (stE L u x (nI 0) (nI 0)) f0) := hD
  have hP9 : va_P D cl5 (wR g k L (stE L u x (nI 0) (nI 0)) f0) H := hP
  have hD9 : va_D A (wR g k L (stE L u x (nI 0) (nI 0)) f0) := hD
  exact W.vret hx hb hr (fun tt9 ht9 hW9 => ⟨⟨(), rfl, trivial, ⟨by rw [ht9]; exact hP9, hD9⟩⟩, hS.F ht9⟩) hS.2.2 d_Dirs_clearEntry_7
theorem d_Dirs_addEntry_0 : decode b_Dirs_addEntry 0 = .ok (.aload_n 0, 1) := by decide +kernel
theorem d_Dirs_addEntry_1 : decode b_Dirs_addEntry 1 = .ok (.iload_n 1, 1) := by decide +kernel
theorem d_Dirs_addEntry_2 : decode b_Dirs_addEntry 2 = .ok (.iconst 0, 1) := by decide +kernel
theorem d_Dirs_addEntry_3 : decode b_Dirs_addEntry 3 = .ok (.invokevirtual 41, 3) := by decide +kernel
theorem d_Dirs_addEntry_6 : decode b_Dirs_addEntry 6 = .ok (.istore 4, 2) := by decide +kernel
theorem d_Dirs_addEntry_8 : decode b_Dirs_addEntry 8 = .ok (.iload 4, 2) := by decide +kernel
theorem d_Dirs_addEntry_10 : decode b_Dirs_addEntry 10 = .ok (.iconst (-1), 1) := by decide +kernel
theorem d_Dirs_addEntry_11 : decode b_Dirs_addEntry 11 = .ok (.if_icmp .ne 43, 3) := by decide +kernel
theorem d_Dirs_addEntry_14 : decode b_Dirs_addEntry 14 = .ok (.aload_n 0, 1) := by decide +kernel
theorem d_Dirs_addEntry_15 : decode b_Dirs_addEntry 15 = .ok (.getfield 15, 3) := by decide +kernel
theorem d_Dirs_addEntry_18 : decode b_Dirs_addEntry 18 = .ok (.iload_n 1, 1) := by decide +kernel
theorem d_Dirs_addEntry_19 : decode b_Dirs_addEntry 19 = .ok (.invokevirtual 23, 3) := by decide +kernel
theorem d_Dirs_addEntry_22 : decode b_Dirs_addEntry 22 = .ok (.istore 5, 2) := by decide +kernel
theorem d_Dirs_addEntry_24 : decode b_Dirs_addEntry 24 = .ok (.aload_n 0, 1) := by decide +kernel
theorem d_Dirs_addEntry_25 : decode b_Dirs_addEntry 25 = .ok (.getfield 15, 3) := by decide +kernel
theorem d_Dirs_addEntry_28 : decode b_Dirs_addEntry 28 = .ok (.iload_n 1, 1) := by decide +kernel
theorem d_Dirs_addEntry_29 : decode b_Dirs_addEntry 29 = .ok (.iload 5, 2) := by decide +kernel
theorem d_Dirs_addEntry_31 : decode b_Dirs_addEntry 31 = .ok (.bipush 64, 2) := by decide +kernel
theorem d_Dirs_addEntry_33 : decode b_Dirs_addEntry 33 = .ok (.iadd, 1) := by decide +kernel
theorem d_Dirs_addEntry_34 : decode b_Dirs_addEntry 34 = .ok (.invokevirtual 44, 3) := by decide +kernel
theorem d_Dirs_addEntry_37 : decode b_Dirs_addEntry 37 = .ok (.ifCond .ne 5, 3) := by decide +kernel
theorem d_Dirs_addEntry_40 : decode b_Dirs_addEntry 40 = .ok (.iconst 0, 1) := by decide +kernel
theorem d_Dirs_addEntry_41 : decode b_Dirs_addEntry 41 = .ok (.ireturn, 1) := by decide +kernel
theorem d_Dirs_addEntry_42 : decode b_Dirs_addEntry 42 = .ok (.aload_n 0, 1) := by decide +kernel
theorem d_Dirs_addEntry_43 : decode b_Dirs_addEntry 43 = .ok (.getfield 15, 3) := by decide +kernel
theorem d_Dirs_addEntry_46 : decode b_Dirs_addEntry 46 = .ok (.iload_n 1, 1) := by decide +kernel
theorem d_Dirs_addEntry_47 : decode b_Dirs_addEntry 47 = .ok (.iload 5, 2) := by decide +kernel
theorem d_Dirs_addEntry_49 : decode b_Dirs_addEntry 49 = .ok (.invokevirtual 29, 3) := by decide +kernel
theorem d_Dirs_addEntry_52 : decode b_Dirs_addEntry 52 = .ok (.istore 4, 2) := by decide +kernel
theorem d_Dirs_addEntry_54 : decode b_Dirs_addEntry 54 = .ok (.aload_n 0, 1) := by decide +kernel
theorem d_Dirs_addEntry_55 : decode b_Dirs_addEntry 55 = .ok (.iload 4, 2) := by decide +kernel
theorem d_Dirs_addEntry_57 : decode b_Dirs_addEntry 57 = .ok (.iload_n 2, 1) := by decide +kernel
theorem d_Dirs_addEntry_58 : decode b_Dirs_addEntry 58 = .ok (.iload_n 3, 1) := by decide +kernel
theorem d_Dirs_addEntry_59 : decode b_Dirs_addEntry 59 = .ok (.invokevirtual 48, 3) := by decide +kernel
theorem d_Dirs_addEntry_62 : decode b_Dirs_addEntry 62 = .ok (.iconst 1, 1) := by decide +kernel
theorem d_Dirs_addEntry_63 : decode b_Dirs_addEntry 63 = .ok (.ireturn, 1) := by decide +kernel
set_option maxHeartbeats 4000000 in
set_option maxRecDepth 100000 in
theorem c_Dirs_addEntry (l : Launch) (D : va_G) (g : Nat → Nat) (k : Nat → ClassId) (L : Nat) (hL0 : 96 ≤ L) (hL : L ≤ 768) (u : DSt) (f0 : Nat → Int32) (d : Nat) (w i : Int32) : MuI l y_Dirs_addEntry w_Dirs_addEntry ({ frames := 6, cells := 0, slots := 0, locals := 179 }) [.ref (g 7), .int (nI d), .int (w), .int (i)] D cl5 (tyC k) (wR g k L u f0) (wR g k L ((adE L u d w i).2) f0) (zI (adE L u d w i).1) := by
  intro sz
  refine Met.ofW (cc := b_Dirs_addEntry) (maxL := 6) (ret := (some .boolean)) (by decide) rfl ?_
  intro p e s m args below meth c s₁ B hml hv
  obtain ⟨rfl, hsz, hP, hK, hD0⟩ := hv
  have hx := B.exec
  have hb := B.bytes
  have hr := B.returns
  have hts := atoms_spec (ws := w_Dirs_addEntry) B.pre
  have hTB : ∀ w ∈ lw_tb, w.before _ s = true := fun w h => hts w (List.mem_cons_of_mem _ h)
  have hown : s.vm.findClass R_Dirs = some m.cls := findClass_of_methodNamed B.named
  have hlocks := B.notSynchronized
  subst hsz
  have hD := hD0.self (sz := s.heap.size)
  generalize hAe : va_A (wR g k L u f0) s.heap.size = A at hD ⊢
  have hA : ∀ q : Nat, s.heap.size ≤ q → A q := fun q h => by rw [← hAe]; exact Or.inr h
  have hS : va_S A s.heap s.heap [] := va_S.rf
  have hl := lv_entry ([.ref (g 7), .int (nI d), .int (w), .int (i)]) (n := 6) (Nat.le_of_ble_eq_true rfl)
  rw [lg_entry_eq]
  generalize (lg_sl ([.ref (g 7), .int (nI d), .int (w), .int (i)]) ++ List.replicate (6 - (lg_sl ([.ref (g 7), .int (nI d), .int (w), .int (i)])).length) Slot.unset).toArray = ls at hl ⊢
  have hl : lv_has ls 6 [(0, .ref (g 7)), (1, .int (nI d)), (2, .int (w)), (3, .int (i))] := hl
  refine lv_aload_n hx hb d_Dirs_addEntry_0 rfl (lv_at hl 0 rfl) ?_
  refine lv_iload_n hx hb d_Dirs_addEntry_1 rfl (lv_at hl 1 rfl) ?_
  refine lv_iconst (v := nI 0) hx hb d_Dirs_addEntry_2 (by decide +kernel) ?_
  refine gz_roV (As := [.int (nI d), .int (nI 0)]) (rest := []) (wc := (wR g k L u f0)) ⟨hx, hb, hml, hown, hTB⟩ (c_Dirs_entryNamed l D g k L hL0 hL u f0 d 0 (by omega)) (cwV 2 hTB (gd_V k_390 k_349 k_350 k_55 k_351) rfl rfl rfl (by decide +kernel) ⟨Nat.le_of_ble_eq_true rfl, Nat.le_of_ble_eq_true rfl⟩) hK hP [0, 1, 2, 3, 4, 5, 6, 7, 8] rfl 0 rfl rfl rfl hl.1 rfl (Nat.le_of_ble_eq_true rfl) d_Dirs_addEntry_3 ⟨Nat.zero_le _, Nat.zero_le _⟩ hS (fun H locs hP hS => ?_)
  refine lv_istore (lv' := [(4, .int (ent L (dNow u) d 0)), (0, .ref (g 7)), (1, .int (nI d)), (2, .int (w)), (3, .int (i))]) hx hb d_Dirs_addEntry_6 hl (by decide) rfl (fun ls hl => ?_)
  refine lv_iload hx hb d_Dirs_addEntry_8 (lv_at hl 0 rfl) ?_
  refine lv_iconst (v := (-1)) hx hb d_Dirs_addEntry_10 (by decide +kernel) ?_
  refine lv_icmp_ne (tgt := 54) hx hb d_Dirs_addEntry_11 (by decide) (fun h11 => ?_) (fun h11 => ?_)
  · refine lv_aload_n hx hb d_Dirs_addEntry_54 rfl (lv_at hl 1 rfl) ?_
    refine lv_iload hx hb d_Dirs_addEntry_55 (lv_at hl 0 rfl) ?_
    refine lv_iload_n hx hb d_Dirs_addEntry_57 rfl (lv_at hl 3 rfl) ?_
    refine lv_iload_n hx hb d_Dirs_addEntry_58 rfl (lv_at hl 4 rfl) ?_
    refine gz_muV (As := [.int (ent L (dNow u) d 0), .int (w), .int (i)]) (rest := []) (wc := (wR g k L u f0)) (w1 := (wR g k L (stE L u (ent L (dNow u) d 0) w i) f0)) (wr := ([])) ⟨hx, hb, hml, hown, hTB⟩ (c_Dirs_setEntry l D g k L hL0 hL u f0 (ent L (dNow u) d 0) w i) (cwV 3 hTB (gd_V k_429 k_430 k_431 k_55 k_432) rfl rfl rfl (by decide +kernel) ⟨Nat.le_of_ble_eq_true rfl, Nat.le_of_ble_eq_true rfl⟩) hK hP hD hA [0, 1, 2, 3, 4, 5, 6, 7, 8] [] rfl rfl (by decide) rfl (by decide) (by decide) 0 rfl rfl rfl hl.1 rfl (Nat.le_of_ble_eq_true rfl) d_Dirs_addEntry_59 ⟨Nat.zero_le _, Nat.zero_le _⟩ hS (fun H locs hP hD hS => ?_)
    have hP : va_P D cl5 (wR g k L (stE L u (ent L (dNow u) d 0) w i) f0) H := hP
    have hD : va_D A (wR g k L (stE L u (ent L (dNow u) d 0) w i) f0) := hD
    refine lv_iconst (v := nI 1) hx hb d_Dirs_addEntry_62 (by decide +kernel) ?_
    have hP9 : va_P D cl5 (wR g k L ((adE L u d w i).2) f0) H := (by unfold adE; rw [if_neg h11]; exact hP)
    have hD9 : va_D A (wR g k L ((adE L u d w i).2) f0) := (by unfold adE; rw [if_neg h11]; exact hD)
    exact W.zret (v := nI 1) (ty := .boolean) hx hb hr (by decide +kernel) (fun tt9 ht9 hW9 => ⟨⟨_, (), rfl, (by unfold adE; rw [if_neg h11]; rfl), ⟨by rw [ht9]; exact hP9, hD9⟩⟩, hS.F ht9⟩) hS.2.2 d_Dirs_addEntry_63
  · refine lv_aload_n hx hb d_Dirs_addEntry_14 rfl (lv_at hl 1 rfl) ?_
    refine va_get (D := D) (ci := 0) (v := .ref (g 6)) (C := R_Dirs) (T := T_Dirs) (N := 3) hx hb hTB in_Dirs hown hK hP 0 rfl rfl 1 (by decide) (hTB _ k_133) (fun _ h9 => h9) rfl d_Dirs_addEntry_15 ?_
    refine lv_iload_n hx hb d_Dirs_addEntry_18 rfl (lv_at hl 2 rfl) ?_
    refine gz_roV (As := [.int (nI d)]) (rest := []) (wc := (wI g k L u)) ⟨hx, hb, hml, hown, hTB⟩ (c_Inodes_size l D g k L hL0 hL u d) (cwV 1 hTB (gd_V k_352 k_353 k_354 k_54 k_355) rfl rfl rfl (by decide +kernel) ⟨Nat.le_of_ble_eq_true rfl, Nat.le_of_ble_eq_true rfl⟩) hK hP [2, 3, 4, 5, 6, 7, 8] rfl 2 rfl rfl rfl hl.1 rfl (Nat.le_of_ble_eq_true rfl) d_Dirs_addEntry_19 ⟨Nat.zero_le _, Nat.zero_le _⟩ hS (fun H locs hP hS => ?_)
    have := iS_lt L (dNow u) d
    refine lv_istore (lv' := [(5, .int (nI (iS L (dNow u) d))), (4, .int (ent L (dNow u) d 0)), (0, .ref (g 7)), (1, .int (nI d)), (2, .int (w)), (3, .int (i))]) hx hb d_Dirs_addEntry_22 hl (by decide) rfl (fun ls hl => ?_)
    refine lv_aload_n hx hb d_Dirs_addEntry_24 rfl (lv_at hl 2 rfl) ?_
    refine va_get (D := D) (ci := 0) (v := .ref (g 6)) (C := R_Dirs) (T := T_Dirs) (N := 3) hx hb hTB in_Dirs hown hK hP 0 rfl rfl 1 (by decide) (hTB _ k_133) (fun _ h9 => h9) rfl d_Dirs_addEntry_25 ?_
    refine lv_iload_n hx hb d_Dirs_addEntry_28 rfl (lv_at hl 3 rfl) ?_
    refine lv_iload hx hb d_Dirs_addEntry_29 (lv_at hl 0 rfl) ?_
    refine lv_bipush (v := nI 64) hx hb d_Dirs_addEntry_31 (by decide +kernel) ?_
    refine gz_iadd hx hb d_Dirs_addEntry_33 ?_
    refine gz_muI (As := [.int (nI d), .int (nI ((iS L (dNow u) d) + 64))]) (rest := []) (wc := (wI g k L u)) (w1 := (wI g k L ((rsz L u d ((iS L (dNow u) d) + 64)).2))) (wr := (hR g k f0)) ⟨hx, hb, hml, hown, hTB⟩ (c_Inodes_resize l D g k L hL0 hL u d ((iS L (dNow u) d) + 64) (by omega)) (cwV 2 hTB (gd_V k_391 k_392 k_393 k_54 k_394) rfl rfl rfl (by decide +kernel) ⟨Nat.le_of_ble_eq_true rfl, Nat.le_of_ble_eq_true rfl⟩) hK hP hD hA [2, 3, 4, 5, 6, 7, 8] [0, 1] rfl rfl (by decide) rfl (by decide) (by decide) 2 rfl rfl rfl hl.1 rfl (Nat.le_of_ble_eq_true rfl) d_Dirs_addEntry_34 ⟨Nat.zero_le _, Nat.zero_le _⟩ hS (fun H locs hP hD hS => ?_)
    have hP : va_P D cl5 (wR g k L ((rsz L u d ((iS L (dNow u) d) + 64)).2) f0) H := hP
    have hD : va_D A (wR g k L ((rsz L u d ((iS L (dNow u) d) + 64)).2) f0) := hD
    refine gz_ifz_ne (tgt := 42) hx hb d_Dirs_addEntry_37 (by decide) (fun h37 => ?_) (fun h37 => ?_)
    · refine lv_aload_n hx hb d_Dirs_addEntry_42 rfl (lv_at hl 2 rfl) ?_
      refine va_get (D := D) (ci := 0) (v := .ref (g 6)) (C := R_Dirs) (T := T_Dirs) (N := 3) hx hb hTB in_Dirs hown hK hP 0 rfl rfl 1 (by decide) (hTB _ k_133) (fun _ h9 => h9) rfl d_Dirs_addEntry_43 ?_
      refine lv_iload_n hx hb d_Dirs_addEntry_46 rfl (lv_at hl 3 rfl) ?_
      refine lv_iload hx hb d_Dirs_addEntry_47 (lv_at hl 0 rfl) ?_
      refine gz_roV (As := [.int (nI d), .int (nI (iS L (dNow u) d))]) (rest := []) (wc := (wI g k L ((rsz L u d ((iS L (dNow u) d) + 64)).2))) ⟨hx, hb, hml, hown, hTB⟩ (c_Inodes_placeOf l D g k L hL0 hL ((rsz L u d ((iS L (dNow u) d) + 64)).2) d (iS L (dNow u) d) (by omega)) (cwV 2 hTB (gd_V k_361 k_362 k_363 k_54 k_364) rfl rfl rfl (by decide +kernel) ⟨Nat.le_of_ble_eq_true rfl, Nat.le_of_ble_eq_true rfl⟩) hK hP [2, 3, 4, 5, 6, 7, 8] rfl 2 rfl rfl rfl hl.1 rfl (Nat.le_of_ble_eq_true rfl) d_Dirs_addEntry_49 ⟨Nat.zero_le _, Nat.zero_le _⟩ hS (fun H locs hP hS => ?_)
      refine lv_istore (lv' := [(4, .int (plc L (dNow ((rsz L u d ((iS L (dNow u) d) + 64)).2)) d (iS L (dNow u) d))), (5, .int (nI (iS L (dNow u) d))), (0, .ref (g 7)), (1, .int (nI d)), (2, .int (w)), (3, .int (i))]) hx hb d_Dirs_addEntry_52 hl (by decide) rfl (fun ls hl => ?_)
      refine lv_aload_n hx hb d_Dirs_addEntry_54 rfl (lv_at hl 2 rfl) ?_
      refine lv_iload hx hb d_Dirs_addEntry_55 (lv_at hl 0 rfl) ?_
      refine lv_iload_n hx hb d_Dirs_addEntry_57 rfl (lv_at hl 4 rfl) ?_
      refine lv_iload_n hx hb d_Dirs_addEntry_58 rfl (lv_at hl 5 rfl) ?_
      refine gz_muV (As := [.int (plc L (dNow ((rsz L u d ((iS L (dNow u) d) + 64)).2)) d (iS L (dNow u) d)), .int (w), .int (i)]) (rest := []) (wc := (wR g k L ((rsz L u d ((iS L (dNow u) d) + 64)).2) f0)) (w1 := (wR g k L (stE L ((rsz L u d ((iS L (dNow u) d) + 64)).2) (plc L (dNow ((rsz L u d ((iS L (dNow u) d) + 64)).2)) d (iS L (dNow u) d)) w i) f0)) (wr := ([])) ⟨hx, hb, hml, hown, hTB⟩ (c_Dirs_setEntry l D g k L hL0 hL ((rsz L u d ((iS L (dNow u) d) + 64)).2) f0 (plc L (dNow ((rsz L u d ((iS L (dNow u) d) + 64)).2)) d (iS L (dNow u) d)) w i) (cwV 3 hTB (gd_V k_429 k_430 k_431 k_55 k_432) rfl rfl rfl (by decide +kernel) ⟨Nat.le_of_ble_eq_true rfl, Nat.le_of_ble_eq_true rfl⟩) hK hP hD hA [0, 1, 2, 3, 4, 5, 6, 7, 8] [] rfl rfl (by decide) rfl (by decide) (by decide) 0 rfl rfl rfl hl.1 rfl (Nat.le_of_ble_eq_true rfl) d_Dirs_addEntry_59 ⟨Nat.zero_le _, Nat.zero_le _⟩ hS (fun H locs hP hD hS => ?_)
      have hP : va_P D cl5 (wR g k L (stE L ((rsz L u d ((iS L (dNow u) d) + 64)).2) (plc L (dNow ((rsz L u d ((iS L (dNow u) d) + 64)).2)) d (iS L (dNow u) d)) w i) f0) H := hP
      have hD : va_D A (wR g k L (stE L ((rsz L u d ((iS L (dNow u) d) + 64)).2) (plc L (dNow ((rsz L u d ((iS L (dNow u) d) + 64)).2)) d (iS L (dNow u) d)) w i) f0) := hD
      refine lv_iconst (v := nI 1) hx hb d_Dirs_addEntry_62 (by decide +kernel) ?_
      have hP9 : va_P D cl5 (wR g k L ((adE L u d w i).2) f0) H := (by unfold adE; rw [if_pos h11, if_pos h37]; exact hP)
      have hD9 : va_D A (wR g k L ((adE L u d w i).2) f0) := (by unfold adE; rw [if_pos h11, if_pos h37]; exact hD)
      exact W.zret (v := nI 1) (ty := .boolean) hx hb hr (by decide +kernel) (fun tt9 ht9 hW9 => ⟨⟨_, (), rfl, (by unfold adE; rw [if_pos h11, if_pos h37]; rfl), ⟨by rw [ht9]; exact hP9, hD9⟩⟩, hS.F ht9⟩) hS.2.2 d_Dirs_addEntry_63
    · refine lv_iconst (v := nI 0) hx hb d_Dirs_addEntry_40 (by decide +kernel) ?_
      have hP9 : va_P D cl5 (wR g k L ((adE L u d w i).2) f0) H := (by unfold adE; rw [if_pos h11, if_neg (by rw [h37]; decide)]; exact hP)
      have hD9 : va_D A (wR g k L ((adE L u d w i).2) f0) := (by unfold adE; rw [if_pos h11, if_neg (by rw [h37]; decide)]; exact hD)
      exact W.zret (v := nI 0) (ty := .boolean) hx hb hr (by decide +kernel) (fun tt9 ht9 hW9 => ⟨⟨_, (), rfl, (by unfold adE; rw [if_pos h11, if_neg (by rw [h37]; decide)]; rfl), ⟨by rw [ht9]; exact hP9, hD9⟩⟩, hS.F ht9⟩) hS.2.2 d_Dirs_addEntry_41
theorem d_Dirs_fillParents_0 : decode b_Dirs_fillParents 0 = .ok (.iconst 0, 1) := by decide +kernel
theorem d_Dirs_fillParents_1 : decode b_Dirs_fillParents 1 = .ok (.istore_n 1, 1) := by decide +kernel
theorem d_Dirs_fillParents_2 : decode b_Dirs_fillParents 2 = .ok (.iload_n 1, 1) := by decide +kernel
theorem d_Dirs_fillParents_3 : decode b_Dirs_fillParents 3 = .ok (.bipush 64, 2) := by decide +kernel
theorem d_Dirs_fillParents_5 : decode b_Dirs_fillParents 5 = .ok (.if_icmp .ge 82, 3) := by decide +kernel
theorem d_Dirs_fillParents_8 : decode b_Dirs_fillParents 8 = .ok (.aload_n 0, 1) := by decide +kernel
theorem d_Dirs_fillParents_9 : decode b_Dirs_fillParents 9 = .ok (.getfield 15, 3) := by decide +kernel
theorem d_Dirs_fillParents_12 : decode b_Dirs_fillParents 12 = .ok (.iload_n 1, 1) := by decide +kernel
theorem d_Dirs_fillParents_13 : decode b_Dirs_fillParents 13 = .ok (.invokevirtual 62, 3) := by decide +kernel
theorem d_Dirs_fillParents_16 : decode b_Dirs_fillParents 16 = .ok (.iconst 2, 1) := by decide +kernel
theorem d_Dirs_fillParents_17 : decode b_Dirs_fillParents 17 = .ok (.if_icmp .ne 14, 3) := by decide +kernel
theorem d_Dirs_fillParents_20 : decode b_Dirs_fillParents 20 = .ok (.aload_n 0, 1) := by decide +kernel
theorem d_Dirs_fillParents_21 : decode b_Dirs_fillParents 21 = .ok (.getfield 15, 3) := by decide +kernel
theorem d_Dirs_fillParents_24 : decode b_Dirs_fillParents 24 = .ok (.iload_n 1, 1) := by decide +kernel
theorem d_Dirs_fillParents_25 : decode b_Dirs_fillParents 25 = .ok (.invokevirtual 23, 3) := by decide +kernel
theorem d_Dirs_fillParents_28 : decode b_Dirs_fillParents 28 = .ok (.goto 4, 3) := by decide +kernel
theorem d_Dirs_fillParents_31 : decode b_Dirs_fillParents 31 = .ok (.iconst 0, 1) := by decide +kernel
theorem d_Dirs_fillParents_32 : decode b_Dirs_fillParents 32 = .ok (.istore_n 2, 1) := by decide +kernel
theorem d_Dirs_fillParents_33 : decode b_Dirs_fillParents 33 = .ok (.iconst 0, 1) := by decide +kernel
theorem d_Dirs_fillParents_34 : decode b_Dirs_fillParents 34 = .ok (.istore_n 3, 1) := by decide +kernel
theorem d_Dirs_fillParents_35 : decode b_Dirs_fillParents 35 = .ok (.iload_n 3, 1) := by decide +kernel
theorem d_Dirs_fillParents_36 : decode b_Dirs_fillParents 36 = .ok (.iload_n 2, 1) := by decide +kernel
theorem d_Dirs_fillParents_37 : decode b_Dirs_fillParents 37 = .ok (.if_icmp .ge 44, 3) := by decide +kernel
theorem d_Dirs_fillParents_40 : decode b_Dirs_fillParents 40 = .ok (.aload_n 0, 1) := by decide +kernel
theorem d_Dirs_fillParents_41 : decode b_Dirs_fillParents 41 = .ok (.aload_n 0, 1) := by decide +kernel
theorem d_Dirs_fillParents_42 : decode b_Dirs_fillParents 42 = .ok (.getfield 15, 3) := by decide +kernel
theorem d_Dirs_fillParents_45 : decode b_Dirs_fillParents 45 = .ok (.iload_n 1, 1) := by decide +kernel
theorem d_Dirs_fillParents_46 : decode b_Dirs_fillParents 46 = .ok (.iload_n 3, 1) := by decide +kernel
theorem d_Dirs_fillParents_47 : decode b_Dirs_fillParents 47 = .ok (.invokevirtual 29, 3) := by decide +kernel
theorem d_Dirs_fillParents_50 : decode b_Dirs_fillParents 50 = .ok (.invokevirtual 65, 3) := by decide +kernel
theorem d_Dirs_fillParents_53 : decode b_Dirs_fillParents 53 = .ok (.istore 4, 2) := by decide +kernel
theorem d_Dirs_fillParents_55 : decode b_Dirs_fillParents 55 = .ok (.iload 4, 2) := by decide +kernel
theorem d_Dirs_fillParents_57 : decode b_Dirs_fillParents 57 = .ok (.ifCond .le 18, 3) := by decide +kernel
theorem d_Dirs_fillParents_60 : decode b_Dirs_fillParents 60 = .ok (.iload 4, 2) := by decide +kernel
theorem d_Dirs_fillParents_62 : decode b_Dirs_fillParents 62 = .ok (.bipush 64, 2) := by decide +kernel
theorem d_Dirs_fillParents_64 : decode b_Dirs_fillParents 64 = .ok (.if_icmp .ge 11, 3) := by decide +kernel
theorem d_Dirs_fillParents_67 : decode b_Dirs_fillParents 67 = .ok (.aload_n 0, 1) := by decide +kernel
theorem d_Dirs_fillParents_68 : decode b_Dirs_fillParents 68 = .ok (.getfield 19, 3) := by decide +kernel
theorem d_Dirs_fillParents_71 : decode b_Dirs_fillParents 71 = .ok (.iload 4, 2) := by decide +kernel
theorem d_Dirs_fillParents_73 : decode b_Dirs_fillParents 73 = .ok (.iload_n 1, 1) := by decide +kernel
theorem d_Dirs_fillParents_74 : decode b_Dirs_fillParents 74 = .ok (.iastore, 1) := by decide +kernel
theorem d_Dirs_fillParents_75 : decode b_Dirs_fillParents 75 = .ok (.iinc 3 4, 3) := by decide +kernel
theorem d_Dirs_fillParents_78 : decode b_Dirs_fillParents 78 = .ok (.goto (-43), 3) := by decide +kernel
theorem d_Dirs_fillParents_81 : decode b_Dirs_fillParents 81 = .ok (.iinc 1 1, 3) := by decide +kernel
theorem d_Dirs_fillParents_84 : decode b_Dirs_fillParents 84 = .ok (.goto (-82), 3) := by decide +kernel
theorem d_Dirs_fillParents_87 : decode b_Dirs_fillParents 87 = .ok (.return_, 1) := by decide +kernel
set_option maxHeartbeats 4000000 in
set_option maxRecDepth 100000 in
theorem c_Dirs_fillParents (l : Launch) (D : va_G) (g : Nat → Nat) (k : Nat → ClassId) (L : Nat) (hL0 : 96 ≤ L) (hL : L ≤ 768) (u : DSt) (f0 : Nat → Int32) : MuV l y_Dirs_fillParents w_Dirs_fillParents ({ frames := 4, cells := 0, slots := 0, locals := 90 }) [.ref (g 7)] D cl5 (tyC k) (wR g k L u f0) (wR g k L u (fil L (dNow u) f0)) := by
  intro sz
  refine Met.ofW (cc := b_Dirs_fillParents) (maxL := 5) (ret := none) (by decide) rfl ?_
  intro p e s m args below meth c s₁ B hml hv
  obtain ⟨rfl, hsz, hP, hK, hD0⟩ := hv
  have hx := B.exec
  have hb := B.bytes
  have hr := B.returns
  have hts := atoms_spec (ws := w_Dirs_fillParents) B.pre
  have hTB : ∀ w ∈ lw_tb, w.before _ s = true := fun w h => hts w (List.mem_cons_of_mem _ h)
  have hown : s.vm.findClass R_Dirs = some m.cls := findClass_of_methodNamed B.named
  have hlocks := B.notSynchronized
  subst hsz
  have hD := hD0.self (sz := s.heap.size)
  generalize hAe : va_A (wR g k L u f0) s.heap.size = A at hD ⊢
  have hA : ∀ q : Nat, s.heap.size ≤ q → A q := fun q h => by rw [← hAe]; exact Or.inr h
  have hS : va_S A s.heap s.heap [] := va_S.rf
  have hl := lv_entry ([.ref (g 7)]) (n := 5) (Nat.le_of_ble_eq_true rfl)
  rw [lg_entry_eq]
  generalize (lg_sl ([.ref (g 7)]) ++ List.replicate (5 - (lg_sl ([.ref (g 7)])).length) Slot.unset).toArray = ls at hl ⊢
  have hl : lv_has ls 5 [(0, .ref (g 7))] := hl
  refine lv_iconst (v := nI 0) hx hb d_Dirs_fillParents_0 (by decide +kernel) ?_
  refine lv_istore_n (lv' := [(1, .int (nI 0)), (0, .ref (g 7))]) hx hb d_Dirs_fillParents_1 rfl hl (by decide) rfl (fun ls hl => ?_)
  refine gz_loop 2 (fun (zz : (Nat × (Nat → Int32))) H locs ls => match zz with | (d, f) => va_P D cl5 (wR g k L u f) H ∧ va_D A (wR g k L u f) ∧ va_S A s.heap H locs ∧ lv_has ls 5 [(0, .ref (g 7)), (1, .int (nI d))] ∧ (d ≤ 64) ∧ (foG L (dNow u) (64 - d) d f = fil L (dNow u) f0)) (fun (zz : (Nat × (Nat → Int32))) => match zz with | (d, f) => 64 - d) (fun zz H locs ls hI ih2 => ?_) (0, f0) ⟨hP, hD, hS, lv_sub hl [1, 0] rfl, (by omega), rfl⟩
  obtain ⟨d, f⟩ := zz
  obtain ⟨hP, hD, hS, hl, hd1, hd2⟩ := hI
  refine lv_iload_n hx hb d_Dirs_fillParents_2 rfl (lv_at hl 1 rfl) ?_
  refine lv_bipush (v := nI 64) hx hb d_Dirs_fillParents_3 (by decide +kernel) ?_
  refine gz_icmp_ge (tgt := 87) hx hb d_Dirs_fillParents_5 (by decide) (by omega) (by omega) (fun h5 => ?_) (fun h5 => ?_)
  · rw [show 64 - d = 0 by omega] at hd2
    have hd2 : f = fil L (dNow u) f0 := hd2
    have hP9 : va_P D cl5 (wR g k L u (fil L (dNow u) f0)) H := (by rw [← hd2]; exact hP)
    have hD9 : va_D A (wR g k L u (fil L (dNow u) f0)) := (by rw [← hd2]; exact hD)
    exact W.vret hx hb hr (fun tt9 ht9 hW9 => ⟨⟨(), rfl, trivial, ⟨by rw [ht9]; exact hP9, hD9⟩⟩, hS.F ht9⟩) hS.2.2 d_Dirs_fillParents_87
  · refine lv_aload_n hx hb d_Dirs_fillParents_8 rfl (lv_at hl 0 rfl) ?_
    refine va_get (D := D) (ci := 0) (v := .ref (g 6)) (C := R_Dirs) (T := T_Dirs) (N := 3) hx hb hTB in_Dirs hown hK hP 0 rfl rfl 1 (by decide) (hTB _ k_133) (fun _ h9 => h9) rfl d_Dirs_fillParents_9 ?_
    refine lv_iload_n hx hb d_Dirs_fillParents_12 rfl (lv_at hl 1 rfl) ?_
    refine gz_roV (As := [.int (nI d)]) (rest := []) (wc := (wI g k L u)) ⟨hx, hb, hml, hown, hTB⟩ (c_Inodes_kind l D g k L hL0 hL u d) (cwV 1 hTB (gd_V k_528 k_341 k_342 k_54 k_343) rfl rfl rfl (by decide +kernel) ⟨Nat.le_of_ble_eq_true rfl, Nat.le_of_ble_eq_true rfl⟩) hK hP [2, 3, 4, 5, 6, 7, 8] rfl 2 rfl rfl rfl hl.1 rfl (Nat.le_of_ble_eq_true rfl) d_Dirs_fillParents_13 ⟨Nat.zero_le _, Nat.zero_le _⟩ hS (fun H locs hP hS => ?_)
    have := iK_lt L (dNow u) d
    refine lv_iconst (v := nI 2) hx hb d_Dirs_fillParents_16 (by decide +kernel) ?_
    refine gz_icmp_ne (tgt := 31) hx hb d_Dirs_fillParents_17 (by decide) (by omega) (by omega) (fun h17 => ?_) (fun h17 => ?_)
    · refine lv_iconst (v := nI 0) hx hb d_Dirs_fillParents_31 (by decide +kernel) ?_
      refine lv_istore_n (lv' := [(2, .int (nI 0)), (0, .ref (g 7)), (1, .int (nI d))]) hx hb d_Dirs_fillParents_32 rfl hl (by decide) rfl (fun ls hl => ?_)
      refine lv_iconst (v := nI 0) hx hb d_Dirs_fillParents_33 (by decide +kernel) ?_
      refine lv_istore_n (lv' := [(3, .int (nI 0)), (2, .int (nI 0)), (0, .ref (g 7)), (1, .int (nI d))]) hx hb d_Dirs_fillParents_34 rfl hl (by decide) rfl (fun ls hl => ?_)
      have hfz := fsz_lt L (dNow u) d
      have hl : lv_has ls 5 [(3, .int (nI 0)), (2, .int (nI (fsz L (dNow u) d))), (0, .ref (g 7)), (1, .int (nI d))] := by first | (rw [show fsz L (dNow u) d = 0 from if_neg h17]; exact hl) | (rw [show fsz L (dNow u) d = iS L (dNow u) d from if_pos h17]; exact hl)
      refine gz_loop 35 (fun (zz : (Nat × (Nat → Int32))) H locs ls => match zz with | (t, f1) => va_P D cl5 (wR g k L u f1) H ∧ va_D A (wR g k L u f1) ∧ va_S A s.heap H locs ∧ lv_has ls 5 [(0, .ref (g 7)), (1, .int (nI d)), (2, .int (nI (fsz L (dNow u) d))), (3, .int (nI t))] ∧ (t ≤ fsz L (dNow u) d + 3) ∧ (fiG L (dNow u) d ((fsz L (dNow u) d + 3 - t) / 4) t f1 = fiG L (dNow u) d ((fsz L (dNow u) d + 3 - 0) / 4) 0 f)) (fun (zz : (Nat × (Nat → Int32))) => match zz with | (t, f1) => fsz L (dNow u) d + 3 - t) (fun zz H locs ls hI ih35 => ?_) (0, f) ⟨hP, hD, hS, lv_sub hl [2, 3, 1, 0] rfl, (by omega), rfl⟩
      obtain ⟨t, f1⟩ := zz
      obtain ⟨hP, hD, hS, hl, ht1, ht2⟩ := hI
      refine lv_iload_n hx hb d_Dirs_fillParents_35 rfl (lv_at hl 3 rfl) ?_
      refine lv_iload_n hx hb d_Dirs_fillParents_36 rfl (lv_at hl 2 rfl) ?_
      refine gz_icmp_ge (tgt := 81) hx hb d_Dirs_fillParents_37 (by decide) (by omega) (by omega) (fun h37 => ?_) (fun h37 => ?_)
      · rw [show (fsz L (dNow u) d + 3 - t) / 4 = 0 by omega] at ht2
        have hfi : f1 = fiG L (dNow u) d ((fsz L (dNow u) d + 3 - 0) / 4) 0 f := ht2
        refine lv_iinc (v := nI (d + 1)) (lv' := [(1, .int (nI (d + 1))), (0, .ref (g 7)), (2, .int (nI (fsz L (dNow u) d))), (3, .int (nI t))]) hx hb d_Dirs_fillParents_81 hl (k := 1) rfl (nI_add d 1) (by decide) rfl (fun ls hl => ?_)
        refine lv_goto (tgt := 2) hx hb d_Dirs_fillParents_84 (by decide) ?_
        exact ih2 (d + 1, f1) _ _ _ (by first | omega | (dsimp only; omega)) ⟨hP, hD, hS, lv_sub hl [1, 0] rfl, (by omega), (by rw [← hd2, show 64 - d = (64 - (d + 1)) + 1 by omega, foG, ← hfi])⟩
      · refine lv_aload_n hx hb d_Dirs_fillParents_40 rfl (lv_at hl 0 rfl) ?_
        refine lv_aload_n hx hb d_Dirs_fillParents_41 rfl (lv_at hl 0 rfl) ?_
        refine va_get (D := D) (ci := 0) (v := .ref (g 6)) (C := R_Dirs) (T := T_Dirs) (N := 3) hx hb hTB in_Dirs hown hK hP 0 rfl rfl 1 (by decide) (hTB _ k_133) (fun _ h9 => h9) rfl d_Dirs_fillParents_42 ?_
        refine lv_iload_n hx hb d_Dirs_fillParents_45 rfl (lv_at hl 1 rfl) ?_
        refine lv_iload_n hx hb d_Dirs_fillParents_46 rfl (lv_at hl 3 rfl) ?_
        refine gz_roV (As := [.int (nI d), .int (nI t)]) (rest := [.ref (g 7)]) (wc := (wI g k L u)) ⟨hx, hb, hml, hown, hTB⟩ (c_Inodes_placeOf l D g k L hL0 hL u d t (by omega)) (cwV 2 hTB (gd_V k_361 k_362 k_363 k_54 k_364) rfl rfl rfl (by decide +kernel) ⟨Nat.le_of_ble_eq_true rfl, Nat.le_of_ble_eq_true rfl⟩) hK hP [2, 3, 4, 5, 6, 7, 8] rfl 2 rfl rfl rfl hl.1 rfl (Nat.le_of_ble_eq_true rfl) d_Dirs_fillParents_47 ⟨Nat.zero_le _, Nat.zero_le _⟩ hS (fun H locs hP hS => ?_)
        refine gz_roV (As := [.int (plc L (dNow u) d t)]) (rest := []) (wc := (wR g k L u f1)) ⟨hx, hb, hml, hown, hTB⟩ (c_Dirs_inodeOf l D g k L hL0 hL u f1 (plc L (dNow u) d t)) (cwV 1 hTB (gd_V k_529 k_451 k_452 k_55 k_453) rfl rfl rfl (by decide +kernel) ⟨Nat.le_of_ble_eq_true rfl, Nat.le_of_ble_eq_true rfl⟩) hK hP [0, 1, 2, 3, 4, 5, 6, 7, 8] rfl 0 rfl rfl rfl hl.1 rfl (Nat.le_of_ble_eq_true rfl) d_Dirs_fillParents_50 ⟨Nat.zero_le _, Nat.zero_le _⟩ hS (fun H locs hP hS => ?_)
        have := ino_lt L (dNow u) (plc L (dNow u) d t)
        refine lv_istore (lv' := [(4, .int (nI (ino L (dNow u) (plc L (dNow u) d t)))), (0, .ref (g 7)), (1, .int (nI d)), (2, .int (nI (fsz L (dNow u) d))), (3, .int (nI t))]) hx hb d_Dirs_fillParents_53 hl (by decide) rfl (fun ls hl => ?_)
        refine lv_iload hx hb d_Dirs_fillParents_55 (lv_at hl 0 rfl) ?_
        refine gz_if_le (tgt := 75) hx hb d_Dirs_fillParents_57 (by decide) (by omega) (fun h57 => ?_) (fun h57 => ?_)
        · refine lv_iinc (v := nI (t + 4)) (lv' := [(3, .int (nI (t + 4))), (4, .int (nI (ino L (dNow u) (plc L (dNow u) d t)))), (0, .ref (g 7)), (1, .int (nI d)), (2, .int (nI (fsz L (dNow u) d)))]) hx hb d_Dirs_fillParents_75 hl (k := 4) rfl (nI_add t 4) (by decide) rfl (fun ls hl => ?_)
          refine lv_goto (tgt := 35) hx hb d_Dirs_fillParents_78 (by decide) ?_
          exact ih35 (t + 4, f1) _ _ _ (by first | omega | (dsimp only; omega)) ⟨hP, hD, hS, lv_sub hl [2, 3, 4, 0] rfl, (by omega), (by rw [← ht2, show (fsz L (dNow u) d + 3 - t) / 4 = (fsz L (dNow u) d + 3 - (t + 4)) / 4 + 1 by omega, fiG]; rw [if_neg (by omega)])⟩
        · refine lv_iload hx hb d_Dirs_fillParents_60 (lv_at hl 0 rfl) ?_
          refine lv_bipush (v := nI 64) hx hb d_Dirs_fillParents_62 (by decide +kernel) ?_
          refine gz_icmp_ge (tgt := 75) hx hb d_Dirs_fillParents_64 (by decide) (by omega) (by omega) (fun h64 => ?_) (fun h64 => ?_)
          · refine lv_iinc (v := nI (t + 4)) (lv' := [(3, .int (nI (t + 4))), (4, .int (nI (ino L (dNow u) (plc L (dNow u) d t)))), (0, .ref (g 7)), (1, .int (nI d)), (2, .int (nI (fsz L (dNow u) d)))]) hx hb d_Dirs_fillParents_75 hl (k := 4) rfl (nI_add t 4) (by decide) rfl (fun ls hl => ?_)
            refine lv_goto (tgt := 35) hx hb d_Dirs_fillParents_78 (by decide) ?_
            exact ih35 (t + 4, f1) _ _ _ (by first | omega | (dsimp only; omega)) ⟨hP, hD, hS, lv_sub hl [2, 3, 4, 0] rfl, (by omega), (by rw [← ht2, show (fsz L (dNow u) d + 3 - t) / 4 = (fsz L (dNow u) d + 3 - (t + 4)) / 4 + 1 by omega, fiG]; rw [if_neg (by omega)])⟩
          · refine lv_aload_n hx hb d_Dirs_fillParents_67 rfl (lv_at hl 1 rfl) ?_
            refine va_get (D := D) (ci := 0) (v := .ref (g 8)) (C := R_Dirs) (T := T_Dirs) (N := 3) hx hb hTB in_Dirs hown hK hP 0 rfl rfl 2 (by decide) (hTB _ k_134) (fun _ h9 => h9) rfl d_Dirs_fillParents_68 ?_
            refine lv_iload hx hb d_Dirs_fillParents_71 (lv_at hl 0 rfl) ?_
            refine lv_iload_n hx hb d_Dirs_fillParents_73 rfl (lv_at hl 2 rfl) ?_
            refine gz_iast hx hb hK hP hD hS 1 2 rfl rfl (i := ino L (dNow u) (plc L (dNow u) d t)) (by omega) (by omega) d_Dirs_fillParents_74 (fun H locs hP hD hS => ?_)
            have hP : va_P D cl5 (wR g k L u (va_up (f1) (ino L (dNow u) (plc L (dNow u) d t)) (nI d))) H := hP
            have hD : va_D A (wR g k L u (va_up (f1) (ino L (dNow u) (plc L (dNow u) d t)) (nI d))) := hD
            refine lv_iinc (v := nI (t + 4)) (lv' := [(3, .int (nI (t + 4))), (4, .int (nI (ino L (dNow u) (plc L (dNow u) d t)))), (0, .ref (g 7)), (1, .int (nI d)), (2, .int (nI (fsz L (dNow u) d)))]) hx hb d_Dirs_fillParents_75 hl (k := 4) rfl (nI_add t 4) (by decide) rfl (fun ls hl => ?_)
            refine lv_goto (tgt := 35) hx hb d_Dirs_fillParents_78 (by decide) ?_
            exact ih35 (t + 4, va_up (f1) (ino L (dNow u) (plc L (dNow u) d t)) (nI d)) _ _ _ (by first | omega | (dsimp only; omega)) ⟨hP, hD, hS, lv_sub hl [2, 3, 4, 0] rfl, (by omega), (by rw [← ht2, show (fsz L (dNow u) d + 3 - t) / 4 = (fsz L (dNow u) d + 3 - (t + 4)) / 4 + 1 by omega, fiG]; rw [if_pos ⟨by omega, by omega⟩])⟩
    · refine lv_aload_n hx hb d_Dirs_fillParents_20 rfl (lv_at hl 0 rfl) ?_
      refine va_get (D := D) (ci := 0) (v := .ref (g 6)) (C := R_Dirs) (T := T_Dirs) (N := 3) hx hb hTB in_Dirs hown hK hP 0 rfl rfl 1 (by decide) (hTB _ k_133) (fun _ h9 => h9) rfl d_Dirs_fillParents_21 ?_
      refine lv_iload_n hx hb d_Dirs_fillParents_24 rfl (lv_at hl 1 rfl) ?_
      refine gz_roV (As := [.int (nI d)]) (rest := []) (wc := (wI g k L u)) ⟨hx, hb, hml, hown, hTB⟩ (c_Inodes_size l D g k L hL0 hL u d) (cwV 1 hTB (gd_V k_352 k_353 k_354 k_54 k_355) rfl rfl rfl (by decide +kernel) ⟨Nat.le_of_ble_eq_true rfl, Nat.le_of_ble_eq_true rfl⟩) hK hP [2, 3, 4, 5, 6, 7, 8] rfl 2 rfl rfl rfl hl.1 rfl (Nat.le_of_ble_eq_true rfl) d_Dirs_fillParents_25 ⟨Nat.zero_le _, Nat.zero_le _⟩ hS (fun H locs hP hS => ?_)
      have := iS_lt L (dNow u) d
      refine lv_goto (tgt := 32) hx hb d_Dirs_fillParents_28 (by decide) ?_
      refine lv_istore_n (lv' := [(2, .int (nI (iS L (dNow u) d))), (0, .ref (g 7)), (1, .int (nI d))]) hx hb d_Dirs_fillParents_32 rfl hl (by decide) rfl (fun ls hl => ?_)
      refine lv_iconst (v := nI 0) hx hb d_Dirs_fillParents_33 (by decide +kernel) ?_
      refine lv_istore_n (lv' := [(3, .int (nI 0)), (2, .int (nI (iS L (dNow u) d))), (0, .ref (g 7)), (1, .int (nI d))]) hx hb d_Dirs_fillParents_34 rfl hl (by decide) rfl (fun ls hl => ?_)
      have hfz := fsz_lt L (dNow u) d
      have hl : lv_has ls 5 [(3, .int (nI 0)), (2, .int (nI (fsz L (dNow u) d))), (0, .ref (g 7)), (1, .int (nI d))] := by first | (rw [show fsz L (dNow u) d = 0 from if_neg h17]; exact hl) | (rw [show fsz L (dNow u) d = iS L (dNow u) d from if_pos h17]; exact hl)
      refine gz_loop 35 (fun (zz : (Nat × (Nat → Int32))) H locs ls => match zz with | (t, f1) => va_P D cl5 (wR g k L u f1) H ∧ va_D A (wR g k L u f1) ∧ va_S A s.heap H locs ∧ lv_has ls 5 [(0, .ref (g 7)), (1, .int (nI d)), (2, .int (nI (fsz L (dNow u) d))), (3, .int (nI t))] ∧ (t ≤ fsz L (dNow u) d + 3) ∧ (fiG L (dNow u) d ((fsz L (dNow u) d + 3 - t) / 4) t f1 = fiG L (dNow u) d ((fsz L (dNow u) d + 3 - 0) / 4) 0 f)) (fun (zz : (Nat × (Nat → Int32))) => match zz with | (t, f1) => fsz L (dNow u) d + 3 - t) (fun zz H locs ls hI ih35 => ?_) (0, f) ⟨hP, hD, hS, lv_sub hl [2, 3, 1, 0] rfl, (by omega), rfl⟩
      obtain ⟨t, f1⟩ := zz
      obtain ⟨hP, hD, hS, hl, ht1, ht2⟩ := hI
      refine lv_iload_n hx hb d_Dirs_fillParents_35 rfl (lv_at hl 3 rfl) ?_
      refine lv_iload_n hx hb d_Dirs_fillParents_36 rfl (lv_at hl 2 rfl) ?_
      refine gz_icmp_ge (tgt := 81) hx hb d_Dirs_fillParents_37 (by decide) (by omega) (by omega) (fun h37 => ?_) (fun h37 => ?_)
      · rw [show (fsz L (dNow u) d + 3 - t) / 4 = 0 by omega] at ht2
        have hfi : f1 = fiG L (dNow u) d ((fsz L (dNow u) d + 3 - 0) / 4) 0 f := ht2
        refine lv_iinc (v := nI (d + 1)) (lv' := [(1, .int (nI (d + 1))), (0, .ref (g 7)), (2, .int (nI (fsz L (dNow u) d))), (3, .int (nI t))]) hx hb d_Dirs_fillParents_81 hl (k := 1) rfl (nI_add d 1) (by decide) rfl (fun ls hl => ?_)
        refine lv_goto (tgt := 2) hx hb d_Dirs_fillParents_84 (by decide) ?_
        exact ih2 (d + 1, f1) _ _ _ (by first | omega | (dsimp only; omega)) ⟨hP, hD, hS, lv_sub hl [1, 0] rfl, (by omega), (by rw [← hd2, show 64 - d = (64 - (d + 1)) + 1 by omega, foG, ← hfi])⟩
      · refine lv_aload_n hx hb d_Dirs_fillParents_40 rfl (lv_at hl 0 rfl) ?_
        refine lv_aload_n hx hb d_Dirs_fillParents_41 rfl (lv_at hl 0 rfl) ?_
        refine va_get (D := D) (ci := 0) (v := .ref (g 6)) (C := R_Dirs) (T := T_Dirs) (N := 3) hx hb hTB in_Dirs hown hK hP 0 rfl rfl 1 (by decide) (hTB _ k_133) (fun _ h9 => h9) rfl d_Dirs_fillParents_42 ?_
        refine lv_iload_n hx hb d_Dirs_fillParents_45 rfl (lv_at hl 1 rfl) ?_
        refine lv_iload_n hx hb d_Dirs_fillParents_46 rfl (lv_at hl 3 rfl) ?_
        refine gz_roV (As := [.int (nI d), .int (nI t)]) (rest := [.ref (g 7)]) (wc := (wI g k L u)) ⟨hx, hb, hml, hown, hTB⟩ (c_Inodes_placeOf l D g k L hL0 hL u d t (by omega)) (cwV 2 hTB (gd_V k_361 k_362 k_363 k_54 k_364) rfl rfl rfl (by decide +kernel) ⟨Nat.le_of_ble_eq_true rfl, Nat.le_of_ble_eq_true rfl⟩) hK hP [2, 3, 4, 5, 6, 7, 8] rfl 2 rfl rfl rfl hl.1 rfl (Nat.le_of_ble_eq_true rfl) d_Dirs_fillParents_47 ⟨Nat.zero_le _, Nat.zero_le _⟩ hS (fun H locs hP hS => ?_)
        refine gz_roV (As := [.int (plc L (dNow u) d t)]) (rest := []) (wc := (wR g k L u f1)) ⟨hx, hb, hml, hown, hTB⟩ (c_Dirs_inodeOf l D g k L hL0 hL u f1 (plc L (dNow u) d t)) (cwV 1 hTB (gd_V k_529 k_451 k_452 k_55 k_453) rfl rfl rfl (by decide +kernel) ⟨Nat.le_of_ble_eq_true rfl, Nat.le_of_ble_eq_true rfl⟩) hK hP [0, 1, 2, 3, 4, 5, 6, 7, 8] rfl 0 rfl rfl rfl hl.1 rfl (Nat.le_of_ble_eq_true rfl) d_Dirs_fillParents_50 ⟨Nat.zero_le _, Nat.zero_le _⟩ hS (fun H locs hP hS => ?_)
        have := ino_lt L (dNow u) (plc L (dNow u) d t)
        refine lv_istore (lv' := [(4, .int (nI (ino L (dNow u) (plc L (dNow u) d t)))), (0, .ref (g 7)), (1, .int (nI d)), (2, .int (nI (fsz L (dNow u) d))), (3, .int (nI t))]) hx hb d_Dirs_fillParents_53 hl (by decide) rfl (fun ls hl => ?_)
        refine lv_iload hx hb d_Dirs_fillParents_55 (lv_at hl 0 rfl) ?_
        refine gz_if_le (tgt := 75) hx hb d_Dirs_fillParents_57 (by decide) (by omega) (fun h57 => ?_) (fun h57 => ?_)
        · refine lv_iinc (v := nI (t + 4)) (lv' := [(3, .int (nI (t + 4))), (4, .int (nI (ino L (dNow u) (plc L (dNow u) d t)))), (0, .ref (g 7)), (1, .int (nI d)), (2, .int (nI (fsz L (dNow u) d)))]) hx hb d_Dirs_fillParents_75 hl (k := 4) rfl (nI_add t 4) (by decide) rfl (fun ls hl => ?_)
          refine lv_goto (tgt := 35) hx hb d_Dirs_fillParents_78 (by decide) ?_
          exact ih35 (t + 4, f1) _ _ _ (by first | omega | (dsimp only; omega)) ⟨hP, hD, hS, lv_sub hl [2, 3, 4, 0] rfl, (by omega), (by rw [← ht2, show (fsz L (dNow u) d + 3 - t) / 4 = (fsz L (dNow u) d + 3 - (t + 4)) / 4 + 1 by omega, fiG]; rw [if_neg (by omega)])⟩
        · refine lv_iload hx hb d_Dirs_fillParents_60 (lv_at hl 0 rfl) ?_
          refine lv_bipush (v := nI 64) hx hb d_Dirs_fillParents_62 (by decide +kernel) ?_
          refine gz_icmp_ge (tgt := 75) hx hb d_Dirs_fillParents_64 (by decide) (by omega) (by omega) (fun h64 => ?_) (fun h64 => ?_)
          · refine lv_iinc (v := nI (t + 4)) (lv' := [(3, .int (nI (t + 4))), (4, .int (nI (ino L (dNow u) (plc L (dNow u) d t)))), (0, .ref (g 7)), (1, .int (nI d)), (2, .int (nI (fsz L (dNow u) d)))]) hx hb d_Dirs_fillParents_75 hl (k := 4) rfl (nI_add t 4) (by decide) rfl (fun ls hl => ?_)
            refine lv_goto (tgt := 35) hx hb d_Dirs_fillParents_78 (by decide) ?_
            exact ih35 (t + 4, f1) _ _ _ (by first | omega | (dsimp only; omega)) ⟨hP, hD, hS, lv_sub hl [2, 3, 4, 0] rfl, (by omega), (by rw [← ht2, show (fsz L (dNow u) d + 3 - t) / 4 = (fsz L (dNow u) d + 3 - (t + 4)) / 4 + 1 by omega, fiG]; rw [if_neg (by omega)])⟩
          · refine lv_aload_n hx hb d_Dirs_fillParents_67 rfl (lv_at hl 1 rfl) ?_
            refine va_get (D := D) (ci := 0) (v := .ref (g 8)) (C := R_Dirs) (T := T_Dirs) (N := 3) hx hb hTB in_Dirs hown hK hP 0 rfl rfl 2 (by decide) (hTB _ k_134) (fun _ h9 => h9) rfl d_Dirs_fillParents_68 ?_
            refine lv_iload hx hb d_Dirs_fillParents_71 (lv_at hl 0 rfl) ?_
            refine lv_iload_n hx hb d_Dirs_fillParents_73 rfl (lv_at hl 2 rfl) ?_
            refine gz_iast hx hb hK hP hD hS 1 2 rfl rfl (i := ino L (dNow u) (plc L (dNow u) d t)) (by omega) (by omega) d_Dirs_fillParents_74 (fun H locs hP hD hS => ?_)
            have hP : va_P D cl5 (wR g k L u (va_up (f1) (ino L (dNow u) (plc L (dNow u) d t)) (nI d))) H := hP
            have hD : va_D A (wR g k L u (va_up (f1) (ino L (dNow u) (plc L (dNow u) d t)) (nI d))) := hD
            refine lv_iinc (v := nI (t + 4)) (lv' := [(3, .int (nI (t + 4))), (4, .int (nI (ino L (dNow u) (plc L (dNow u) d t)))), (0, .ref (g 7)), (1, .int (nI d)), (2, .int (nI (fsz L (dNow u) d)))]) hx hb d_Dirs_fillParents_75 hl (k := 4) rfl (nI_add t 4) (by decide) rfl (fun ls hl => ?_)
            refine lv_goto (tgt := 35) hx hb d_Dirs_fillParents_78 (by decide) ?_
            exact ih35 (t + 4, va_up (f1) (ino L (dNow u) (plc L (dNow u) d t)) (nI d)) _ _ _ (by first | omega | (dsimp only; omega)) ⟨hP, hD, hS, lv_sub hl [2, 3, 4, 0] rfl, (by omega), (by rw [← ht2, show (fsz L (dNow u) d + 3 - t) / 4 = (fsz L (dNow u) d + 3 - (t + 4)) / 4 + 1 by omega, fiG]; rw [if_pos ⟨by omega, by omega⟩])⟩
theorem d_Dirs_isWithin_0 : decode b_Dirs_isWithin 0 = .ok (.aload_n 0, 1) := by decide +kernel
theorem d_Dirs_isWithin_1 : decode b_Dirs_isWithin 1 = .ok (.invokevirtual 59, 3) := by decide +kernel
theorem d_Dirs_isWithin_4 : decode b_Dirs_isWithin 4 = .ok (.iload_n 1, 1) := by decide +kernel
theorem d_Dirs_isWithin_5 : decode b_Dirs_isWithin 5 = .ok (.istore_n 3, 1) := by decide +kernel
theorem d_Dirs_isWithin_6 : decode b_Dirs_isWithin 6 = .ok (.iconst 0, 1) := by decide +kernel
theorem d_Dirs_isWithin_7 : decode b_Dirs_isWithin 7 = .ok (.istore 4, 2) := by decide +kernel
theorem d_Dirs_isWithin_9 : decode b_Dirs_isWithin 9 = .ok (.iload 4, 2) := by decide +kernel
theorem d_Dirs_isWithin_11 : decode b_Dirs_isWithin 11 = .ok (.bipush 64, 2) := by decide +kernel
theorem d_Dirs_isWithin_13 : decode b_Dirs_isWithin 13 = .ok (.if_icmp .ge 39, 3) := by decide +kernel
theorem d_Dirs_isWithin_16 : decode b_Dirs_isWithin 16 = .ok (.iload_n 3, 1) := by decide +kernel
theorem d_Dirs_isWithin_17 : decode b_Dirs_isWithin 17 = .ok (.ifCond .eq 35, 3) := by decide +kernel
theorem d_Dirs_isWithin_20 : decode b_Dirs_isWithin 20 = .ok (.iload_n 3, 1) := by decide +kernel
theorem d_Dirs_isWithin_21 : decode b_Dirs_isWithin 21 = .ok (.iload_n 2, 1) := by decide +kernel
theorem d_Dirs_isWithin_22 : decode b_Dirs_isWithin 22 = .ok (.if_icmp .eq 30, 3) := by decide +kernel
theorem d_Dirs_isWithin_25 : decode b_Dirs_isWithin 25 = .ok (.iload_n 3, 1) := by decide +kernel
theorem d_Dirs_isWithin_26 : decode b_Dirs_isWithin 26 = .ok (.ifCond .le 18, 3) := by decide +kernel
theorem d_Dirs_isWithin_29 : decode b_Dirs_isWithin 29 = .ok (.iload_n 3, 1) := by decide +kernel
theorem d_Dirs_isWithin_30 : decode b_Dirs_isWithin 30 = .ok (.bipush 64, 2) := by decide +kernel
theorem d_Dirs_isWithin_32 : decode b_Dirs_isWithin 32 = .ok (.if_icmp .ge 12, 3) := by decide +kernel
theorem d_Dirs_isWithin_35 : decode b_Dirs_isWithin 35 = .ok (.aload_n 0, 1) := by decide +kernel
theorem d_Dirs_isWithin_36 : decode b_Dirs_isWithin 36 = .ok (.getfield 19, 3) := by decide +kernel
theorem d_Dirs_isWithin_39 : decode b_Dirs_isWithin 39 = .ok (.iload_n 3, 1) := by decide +kernel
theorem d_Dirs_isWithin_40 : decode b_Dirs_isWithin 40 = .ok (.iaload, 1) := by decide +kernel
theorem d_Dirs_isWithin_41 : decode b_Dirs_isWithin 41 = .ok (.goto 4, 3) := by decide +kernel
theorem d_Dirs_isWithin_44 : decode b_Dirs_isWithin 44 = .ok (.iconst 0, 1) := by decide +kernel
theorem d_Dirs_isWithin_45 : decode b_Dirs_isWithin 45 = .ok (.istore_n 3, 1) := by decide +kernel
theorem d_Dirs_isWithin_46 : decode b_Dirs_isWithin 46 = .ok (.iinc 4 1, 3) := by decide +kernel
theorem d_Dirs_isWithin_49 : decode b_Dirs_isWithin 49 = .ok (.goto (-40), 3) := by decide +kernel
theorem d_Dirs_isWithin_52 : decode b_Dirs_isWithin 52 = .ok (.iload_n 3, 1) := by decide +kernel
theorem d_Dirs_isWithin_53 : decode b_Dirs_isWithin 53 = .ok (.iload_n 2, 1) := by decide +kernel
theorem d_Dirs_isWithin_54 : decode b_Dirs_isWithin 54 = .ok (.if_icmp .ne 7, 3) := by decide +kernel
theorem d_Dirs_isWithin_57 : decode b_Dirs_isWithin 57 = .ok (.iconst 1, 1) := by decide +kernel
theorem d_Dirs_isWithin_58 : decode b_Dirs_isWithin 58 = .ok (.goto 4, 3) := by decide +kernel
theorem d_Dirs_isWithin_61 : decode b_Dirs_isWithin 61 = .ok (.iconst 0, 1) := by decide +kernel
theorem d_Dirs_isWithin_62 : decode b_Dirs_isWithin 62 = .ok (.ireturn, 1) := by decide +kernel
set_option maxHeartbeats 4000000 in
set_option maxRecDepth 100000 in
theorem c_Dirs_isWithin (l : Launch) (D : va_G) (g : Nat → Nat) (k : Nat → ClassId) (L : Nat) (hL0 : 96 ≤ L) (hL : L ≤ 768) (u : DSt) (f0 : Nat → Int32) (d : Nat) (o : Int32) (hd0 : d < 64) : MuI l y_Dirs_isWithin w_Dirs_isWithin ({ frames := 5, cells := 0, slots := 0, locals := 114 }) [.ref (g 7), .int (nI d), .int (o)] D cl5 (tyC k) (wR g k L u f0) (wR g k L u (fil L (dNow u) f0)) (zI (wit L (dNow u) f0 d o)) := by
  intro sz
  refine Met.ofW (cc := b_Dirs_isWithin) (maxL := 5) (ret := (some .boolean)) (by decide) rfl ?_
  intro p e s m args below meth c s₁ B hml hv
  obtain ⟨rfl, hsz, hP, hK, hD0⟩ := hv
  have hx := B.exec
  have hb := B.bytes
  have hr := B.returns
  have hts := atoms_spec (ws := w_Dirs_isWithin) B.pre
  have hTB : ∀ w ∈ lw_tb, w.before _ s = true := fun w h => hts w (List.mem_cons_of_mem _ h)
  have hown : s.vm.findClass R_Dirs = some m.cls := findClass_of_methodNamed B.named
  have hlocks := B.notSynchronized
  subst hsz
  have hD := hD0.self (sz := s.heap.size)
  generalize hAe : va_A (wR g k L u f0) s.heap.size = A at hD ⊢
  have hA : ∀ q : Nat, s.heap.size ≤ q → A q := fun q h => by rw [← hAe]; exact Or.inr h
  have hS : va_S A s.heap s.heap [] := va_S.rf
  have hl := lv_entry ([.ref (g 7), .int (nI d), .int (o)]) (n := 5) (Nat.le_of_ble_eq_true rfl)
  rw [lg_entry_eq]
  generalize (lg_sl ([.ref (g 7), .int (nI d), .int (o)]) ++ List.replicate (5 - (lg_sl ([.ref (g 7), .int (nI d), .int (o)])).length) Slot.unset).toArray = ls at hl ⊢
  have hl : lv_has ls 5 [(0, .ref (g 7)), (1, .int (nI d)), (2, .int (o))] := hl
  refine lv_aload_n hx hb d_Dirs_isWithin_0 rfl (lv_at hl 0 rfl) ?_
  refine gz_muV (As := []) (rest := []) (wc := (wR g k L u f0)) (w1 := (wR g k L u (fil L (dNow u) f0))) (wr := ([])) ⟨hx, hb, hml, hown, hTB⟩ (c_Dirs_fillParents l D g k L hL0 hL u f0) (cwV 0 hTB (gd_V k_524 k_526 k_14 k_55 k_527) rfl rfl rfl (by decide +kernel) ⟨Nat.le_of_ble_eq_true rfl, Nat.le_of_ble_eq_true rfl⟩) hK hP hD hA [0, 1, 2, 3, 4, 5, 6, 7, 8] [] rfl rfl (by decide) rfl (by decide) (by decide) 0 rfl rfl rfl hl.1 rfl (Nat.le_of_ble_eq_true rfl) d_Dirs_isWithin_1 ⟨Nat.zero_le _, Nat.zero_le _⟩ hS (fun H locs hP hD hS => ?_)
  have hP : va_P D cl5 (wR g k L u (fil L (dNow u) f0)) H := hP
  have hD : va_D A (wR g k L u (fil L (dNow u) f0)) := hD
  refine lv_iload_n hx hb d_Dirs_isWithin_4 rfl (lv_at hl 1 rfl) ?_
  refine lv_istore_n (lv' := [(3, .int (nI d)), (0, .ref (g 7)), (1, .int (nI d)), (2, .int (o))]) hx hb d_Dirs_isWithin_5 rfl hl (by decide) rfl (fun ls hl => ?_)
  refine lv_iconst (v := nI 0) hx hb d_Dirs_isWithin_6 (by decide +kernel) ?_
  refine lv_istore (lv' := [(4, .int (nI 0)), (3, .int (nI d)), (0, .ref (g 7)), (1, .int (nI d)), (2, .int (o))]) hx hb d_Dirs_isWithin_7 hl (by decide) rfl (fun ls hl => ?_)
  refine gz_loop 9 (fun (zz : (Nat × Int32)) H locs ls => match zz with | (n, x) => va_P D cl5 (wR g k L u (fil L (dNow u) f0)) H ∧ va_D A (wR g k L u (fil L (dNow u) f0)) ∧ va_S A s.heap H locs ∧ lv_has ls 5 [(0, .ref (g 7)), (2, .int (o)), (3, .int (x)), (4, .int (nI n))] ∧ (n ≤ 64) ∧ (wiG (fil L (dNow u) f0) o (64 - n) x = wiG (fil L (dNow u) f0) o 64 (nI d))) (fun (zz : (Nat × Int32)) => match zz with | (n, x) => 64 - n) (fun zz H locs ls hI ih9 => ?_) (0, nI d) ⟨hP, hD, hS, lv_sub hl [2, 4, 1, 0] rfl, (by omega), rfl⟩
  obtain ⟨n, x⟩ := zz
  obtain ⟨hP, hD, hS, hl, hn1, hn2⟩ := hI
  refine lv_iload hx hb d_Dirs_isWithin_9 (lv_at hl 3 rfl) ?_
  refine lv_bipush (v := nI 64) hx hb d_Dirs_isWithin_11 (by decide +kernel) ?_
  refine gz_icmp_ge (tgt := 52) hx hb d_Dirs_isWithin_13 (by decide) (by omega) (by omega) (fun h13 => ?_) (fun h13 => ?_)
  · have hw : x = wiG (fil L (dNow u) f0) o 64 (nI d) := by rw [← hn2, show 64 - n = 0 by omega]; rfl
    refine lv_iload_n hx hb d_Dirs_isWithin_52 rfl (lv_at hl 2 rfl) ?_
    refine lv_iload_n hx hb d_Dirs_isWithin_53 rfl (lv_at hl 1 rfl) ?_
    refine lv_icmp_ne (tgt := 61) hx hb d_Dirs_isWithin_54 (by decide) (fun h54 => ?_) (fun h54 => ?_)
    · refine lv_iconst (v := nI 0) hx hb d_Dirs_isWithin_61 (by decide +kernel) ?_
      have hP9 : va_P D cl5 (wR g k L u (fil L (dNow u) f0)) H := hP
      have hD9 : va_D A (wR g k L u (fil L (dNow u) f0)) := hD
      exact W.zret (v := nI 0) (ty := .boolean) hx hb hr (by decide +kernel) (fun tt9 ht9 hW9 => ⟨⟨_, (), rfl, (by unfold wit; rw [← hw]; first | (rw [decide_eq_true h54]; rfl) | (rw [decide_eq_false h54]; rfl)), ⟨by rw [ht9]; exact hP9, hD9⟩⟩, hS.F ht9⟩) hS.2.2 d_Dirs_isWithin_62
    · refine lv_iconst (v := nI 1) hx hb d_Dirs_isWithin_57 (by decide +kernel) ?_
      refine lv_goto (tgt := 62) hx hb d_Dirs_isWithin_58 (by decide) ?_
      have hP9 : va_P D cl5 (wR g k L u (fil L (dNow u) f0)) H := hP
      have hD9 : va_D A (wR g k L u (fil L (dNow u) f0)) := hD
      exact W.zret (v := nI 1) (ty := .boolean) hx hb hr (by decide +kernel) (fun tt9 ht9 hW9 => ⟨⟨_, (), rfl, (by unfold wit; rw [← hw]; first | (rw [decide_eq_true h54]; rfl) | (rw [decide_eq_false h54]; rfl)), ⟨by rw [ht9]; exact hP9, hD9⟩⟩, hS.F ht9⟩) hS.2.2 d_Dirs_isWithin_62
  · refine lv_iload_n hx hb d_Dirs_isWithin_16 rfl (lv_at hl 2 rfl) ?_
    refine lv_if_eq (tgt := 52) hx hb d_Dirs_isWithin_17 (by decide) (fun h17 => ?_) (fun h17 => ?_)
    · have hw : x = wiG (fil L (dNow u) f0) o 64 (nI d) := by rw [← hn2, show 64 - n = (64 - (n + 1)) + 1 by omega, wiG, if_pos (Or.inl h17)]
      refine lv_iload_n hx hb d_Dirs_isWithin_52 rfl (lv_at hl 2 rfl) ?_
      refine lv_iload_n hx hb d_Dirs_isWithin_53 rfl (lv_at hl 1 rfl) ?_
      refine lv_icmp_ne (tgt := 61) hx hb d_Dirs_isWithin_54 (by decide) (fun h54 => ?_) (fun h54 => ?_)
      · refine lv_iconst (v := nI 0) hx hb d_Dirs_isWithin_61 (by decide +kernel) ?_
        have hP9 : va_P D cl5 (wR g k L u (fil L (dNow u) f0)) H := hP
        have hD9 : va_D A (wR g k L u (fil L (dNow u) f0)) := hD
        exact W.zret (v := nI 0) (ty := .boolean) hx hb hr (by decide +kernel) (fun tt9 ht9 hW9 => ⟨⟨_, (), rfl, (by unfold wit; rw [← hw]; first | (rw [decide_eq_true h54]; rfl) | (rw [decide_eq_false h54]; rfl)), ⟨by rw [ht9]; exact hP9, hD9⟩⟩, hS.F ht9⟩) hS.2.2 d_Dirs_isWithin_62
      · refine lv_iconst (v := nI 1) hx hb d_Dirs_isWithin_57 (by decide +kernel) ?_
        refine lv_goto (tgt := 62) hx hb d_Dirs_isWithin_58 (by decide) ?_
        have hP9 : va_P D cl5 (wR g k L u (fil L (dNow u) f0)) H := hP
        have hD9 : va_D A (wR g k L u (fil L (dNow u) f0)) := hD
        exact W.zret (v := nI 1) (ty := .boolean) hx hb hr (by decide +kernel) (fun tt9 ht9 hW9 => ⟨⟨_, (), rfl, (by unfold wit; rw [← hw]; first | (rw [decide_eq_true h54]; rfl) | (rw [decide_eq_false h54]; rfl)), ⟨by rw [ht9]; exact hP9, hD9⟩⟩, hS.F ht9⟩) hS.2.2 d_Dirs_isWithin_62
    · refine lv_iload_n hx hb d_Dirs_isWithin_20 rfl (lv_at hl 2 rfl) ?_
      refine lv_iload_n hx hb d_Dirs_isWithin_21 rfl (lv_at hl 1 rfl) ?_
      refine lv_icmp_eq (tgt := 52) hx hb d_Dirs_isWithin_22 (by decide) (fun h22 => ?_) (fun h22 => ?_)
      · have hw : x = wiG (fil L (dNow u) f0) o 64 (nI d) := by rw [← hn2, show 64 - n = (64 - (n + 1)) + 1 by omega, wiG, if_pos (Or.inr h22)]
        refine lv_iload_n hx hb d_Dirs_isWithin_52 rfl (lv_at hl 2 rfl) ?_
        refine lv_iload_n hx hb d_Dirs_isWithin_53 rfl (lv_at hl 1 rfl) ?_
        refine lv_icmp_ne (tgt := 61) hx hb d_Dirs_isWithin_54 (by decide) (fun h54 => ?_) (fun h54 => ?_)
        · refine lv_iconst (v := nI 0) hx hb d_Dirs_isWithin_61 (by decide +kernel) ?_
          have hP9 : va_P D cl5 (wR g k L u (fil L (dNow u) f0)) H := hP
          have hD9 : va_D A (wR g k L u (fil L (dNow u) f0)) := hD
          exact W.zret (v := nI 0) (ty := .boolean) hx hb hr (by decide +kernel) (fun tt9 ht9 hW9 => ⟨⟨_, (), rfl, (by unfold wit; rw [← hw]; first | (rw [decide_eq_true h54]; rfl) | (rw [decide_eq_false h54]; rfl)), ⟨by rw [ht9]; exact hP9, hD9⟩⟩, hS.F ht9⟩) hS.2.2 d_Dirs_isWithin_62
        · refine lv_iconst (v := nI 1) hx hb d_Dirs_isWithin_57 (by decide +kernel) ?_
          refine lv_goto (tgt := 62) hx hb d_Dirs_isWithin_58 (by decide) ?_
          have hP9 : va_P D cl5 (wR g k L u (fil L (dNow u) f0)) H := hP
          have hD9 : va_D A (wR g k L u (fil L (dNow u) f0)) := hD
          exact W.zret (v := nI 1) (ty := .boolean) hx hb hr (by decide +kernel) (fun tt9 ht9 hW9 => ⟨⟨_, (), rfl, (by unfold wit; rw [← hw]; first | (rw [decide_eq_true h54]; rfl) | (rw [decide_eq_false h54]; rfl)), ⟨by rw [ht9]; exact hP9, hD9⟩⟩, hS.F ht9⟩) hS.2.2 d_Dirs_isWithin_62
      · refine lv_iload_n hx hb d_Dirs_isWithin_25 rfl (lv_at hl 2 rfl) ?_
        refine lv_if_le (tgt := 44) hx hb d_Dirs_isWithin_26 (by decide) (fun h26 => ?_) (fun h26 => ?_)
        · have h26x : ¬ 0 < x := Int32.not_lt.mpr h26
          refine lv_iconst (v := nI 0) hx hb d_Dirs_isWithin_44 (by decide +kernel) ?_
          refine lv_istore_n (lv' := [(3, .int (nI 0)), (0, .ref (g 7)), (2, .int (o)), (4, .int (nI n))]) hx hb d_Dirs_isWithin_45 rfl hl (by decide) rfl (fun ls hl => ?_)
          refine lv_iinc (v := nI (n + 1)) (lv' := [(4, .int (nI (n + 1))), (3, .int (nI 0)), (0, .ref (g 7)), (2, .int (o))]) hx hb d_Dirs_isWithin_46 hl (k := 3) rfl (nI_add n 1) (by decide) rfl (fun ls hl => ?_)
          refine lv_goto (tgt := 9) hx hb d_Dirs_isWithin_49 (by decide) ?_
          exact ih9 (n + 1, nI 0) _ _ _ (by first | omega | (dsimp only; omega)) ⟨hP, hD, hS, lv_sub hl [2, 3, 1, 0] rfl, (by omega), (by rw [← hn2, show 64 - n = (64 - (n + 1)) + 1 by omega, wiG, if_neg (fun z => z.elim h17 h22)]; first | (rw [if_pos ⟨Int32.not_le.mp h26, Int32.not_le.mp h32⟩, nI_clamp (by omega)]) | (rw [if_neg (fun z => h26x z.1)]) | (rw [if_neg (fun z => h32x z.2)]))⟩
        · refine lv_iload_n hx hb d_Dirs_isWithin_29 rfl (lv_at hl 2 rfl) ?_
          refine lv_bipush (v := nI 64) hx hb d_Dirs_isWithin_30 (by decide +kernel) ?_
          refine lv_icmp_ge (tgt := 44) hx hb d_Dirs_isWithin_32 (by decide) (fun h32 => ?_) (fun h32 => ?_)
          · have h32x : ¬ x < nI 64 := Int32.not_lt.mpr h32
            refine lv_iconst (v := nI 0) hx hb d_Dirs_isWithin_44 (by decide +kernel) ?_
            refine lv_istore_n (lv' := [(3, .int (nI 0)), (0, .ref (g 7)), (2, .int (o)), (4, .int (nI n))]) hx hb d_Dirs_isWithin_45 rfl hl (by decide) rfl (fun ls hl => ?_)
            refine lv_iinc (v := nI (n + 1)) (lv' := [(4, .int (nI (n + 1))), (3, .int (nI 0)), (0, .ref (g 7)), (2, .int (o))]) hx hb d_Dirs_isWithin_46 hl (k := 3) rfl (nI_add n 1) (by decide) rfl (fun ls hl => ?_)
            refine lv_goto (tgt := 9) hx hb d_Dirs_isWithin_49 (by decide) ?_
            exact ih9 (n + 1, nI 0) _ _ _ (by first | omega | (dsimp only; omega)) ⟨hP, hD, hS, lv_sub hl [2, 3, 1, 0] rfl, (by omega), (by rw [← hn2, show 64 - n = (64 - (n + 1)) + 1 by omega, wiG, if_neg (fun z => z.elim h17 h22)]; first | (rw [if_pos ⟨Int32.not_le.mp h26, Int32.not_le.mp h32⟩, nI_clamp (by omega)]) | (rw [if_neg (fun z => h26x z.1)]) | (rw [if_neg (fun z => h32x z.2)]))⟩
          · obtain ⟨q, hq, rfl⟩ : ∃ q, q < 64 ∧ x = nI q := by
              rcases pk_ix x (n := 64) (by decide) with z | z | z
              · exact absurd (Int32.le_of_lt z) h26
              · exact absurd z h32
              · exact z
            refine lv_aload_n hx hb d_Dirs_isWithin_35 rfl (lv_at hl 0 rfl) ?_
            refine va_get (D := D) (ci := 0) (v := .ref (g 8)) (C := R_Dirs) (T := T_Dirs) (N := 3) hx hb hTB in_Dirs hown hK hP 0 rfl rfl 2 (by decide) (hTB _ k_134) (fun _ h9 => h9) rfl d_Dirs_isWithin_36 ?_
            refine lv_iload_n hx hb d_Dirs_isWithin_39 rfl (lv_at hl 2 rfl) ?_
            refine gz_iald hx hb hK hP 1 2 rfl rfl (i := q) (by omega) (by omega) d_Dirs_isWithin_40 ?_
            refine lv_goto (tgt := 45) hx hb d_Dirs_isWithin_41 (by decide) ?_
            refine lv_istore_n (lv' := [(3, .int (fil L (dNow u) f0 q)), (0, .ref (g 7)), (2, .int (o)), (4, .int (nI n))]) hx hb d_Dirs_isWithin_45 rfl hl (by decide) rfl (fun ls hl => ?_)
            refine lv_iinc (v := nI (n + 1)) (lv' := [(4, .int (nI (n + 1))), (3, .int (fil L (dNow u) f0 q)), (0, .ref (g 7)), (2, .int (o))]) hx hb d_Dirs_isWithin_46 hl (k := 3) rfl (nI_add n 1) (by decide) rfl (fun ls hl => ?_)
            refine lv_goto (tgt := 9) hx hb d_Dirs_isWithin_49 (by decide) ?_
            exact ih9 (n + 1, fil L (dNow u) f0 q) _ _ _ (by first | omega | (dsimp only; omega)) ⟨hP, hD, hS, lv_sub hl [2, 3, 1, 0] rfl, (by omega), (by rw [← hn2, show 64 - n = (64 - (n + 1)) + 1 by omega, wiG, if_neg (fun z => z.elim h17 h22)]; first | (rw [if_pos ⟨Int32.not_le.mp h26, Int32.not_le.mp h32⟩, nI_clamp (by omega)]) | (rw [if_neg (fun z => h26x z.1)]) | (rw [if_neg (fun z => h32x z.2)]))⟩
end
section
/-! THE FACE: what each call answers and does, of legal arguments (those that don't throw). -/
def kfl (x c : Nat) : Int32 := if x = 0 then -1 else if x = c then nI 0 else -5
def eof (L : Nat) (a : Nat → Int64) (d w : Nat) : Int32 := if 0 ≤ kfl (iK L a d) 2 then ent L a d w else kfl (iK L a d) 2
def hsE (L : Nat) (a : Nat → Int64) (i : Nat) : Bool := decide (iK L a i = 2) && !emp L a i
/-- moveFault: the answer; whether the parents were filled -/
def mvF (L : Nat) (a : Nat → Int64) (f : Nat → Int32) (i d : Nat) (x : Int32) : Int32 :=
  if x ≠ -1 ∧ ¬ (iK L a i = 2 ↔ iK L a (ino L a x) = 2) then -5
  else if x ≠ -1 ∧ hsE L a (ino L a x) = true then -6
  else if iK L a i = 2 ∧ wit L a f d (nI i) = true then -7
  else nI 0
def mvP (L : Nat) (a : Nat → Int64) (f : Nat → Int32) (i : Nat) (x : Int32) : Nat → Int32 :=
  if x ≠ -1 ∧ ¬ (iK L a i = 2 ↔ iK L a (ino L a x) = 2) then f
  else if x ≠ -1 ∧ hsE L a (ino L a x) = true then f
  else if iK L a i = 2 then fil L a f else f
/-- make -/
def mkC (L : Nat) (u : DSt) (d w c : Nat) : Int32 × DSt :=
  if 0 ≤ kfl (iK L (dNow u) d) 2 then
    if ent L (dNow u) d w = -1 then
      if ilf L (dNow u) = -1 then (-3, u)
      else if (adE L u d (nI w) (ilf L (dNow u))).1 = true then (ilf L (dNow u), stl L (setB L (adE L u d (nI w) (ilf L (dNow u))).2 (nI (1600 + 32 * (ilf L (dNow u)).toNatClampNeg)) (nI c)))
      else (-4, und L (adE L u d (nI w) (ilf L (dNow u))).2)
    else (-2, u)
  else (kfl (iK L (dNow u) d) 2, u)
/-- find -/
def fdC (L : Nat) (a : Nat → Int64) (d w : Nat) : Int32 := if 0 ≤ eof L a d w then nI (ino L a (eof L a d w)) else eof L a d w
/-- write: n bytes more, from byte j of the tape on -/
def wrG (L i t : Nat) (f : Nat → Int32) : Nat → Nat → DSt → DSt
  | 0, _, u => u
  | n + 1, j, u => wrG L i t f n (j + 1) (setB L u (plc L (dNow u) i (t + j)) (f j))
def wrN (L : Nat) (u : DSt) (i t n : Nat) (f : Nat → Int32) : Int32 × DSt :=
  if (rsz L u i (max (iS L (dNow u) i) (t + n))).1 = true then (nI (max (iS L (dNow u) i) (t + n)), stl L (wrG L i t f n 0 (rsz L u i (max (iS L (dNow u) i) (t + n))).2))
  else (-4, und L (rsz L u i (max (iS L (dNow u) i) (t + n))).2)
def wrC (L : Nat) (u : DSt) (i : Nat) (x : Int32) (n : Nat) (f : Nat → Int32) : Int32 × DSt :=
  if 0 ≤ kfl (iK L (dNow u) i) 1 then
    if x < 0 ∨ nI (iS L (dNow u) i) < x then (-8, u) else wrN L u i x.toNatClampNeg n f
  else (kfl (iK L (dNow u) i) 1, u)
/-- cut -/
def ctN (L : Nat) (u : DSt) (i n : Nat) : Int32 × DSt := if (rsz L u i n).1 = true then (nI n, stl L (rsz L u i n).2) else (-4, und L (rsz L u i n).2)
def ctC (L : Nat) (u : DSt) (i : Nat) (x : Int32) : Int32 × DSt :=
  if 0 ≤ kfl (iK L (dNow u) i) 1 then
    if x < 0 ∨ nI (iS L (dNow u) i + 1024) < x then (-8, u) else ctN L u i x.toNatClampNeg
  else (kfl (iK L (dNow u) i) 1, u)
/-- read: eight bytes from t on -/
def rdG (L : Nat) (a : Nat → Int64) (i t : Nat) : Nat → Int64
  | 0 => 0
  | j + 1 => rdG L a i t j ||| ((nI (bN L a (plc L a i (t + j)))).toInt64 <<< ((nI (8 * j)).toInt64 &&& 63))
/-- move -/
abbrev mv1 (L : Nat) (u : DSt) (x : Int32) : DSt := stE L u x (nI 0) (nI 0)
def mvD (L : Nat) (u : DSt) (x : Int32) (i d w : Nat) (y : Int32) : Int32 × DSt :=
  if y = -1 then
    if (adE L (mv1 L u x) d (nI w) (nI i)).1 = true then (nI 0, stl L (adE L (mv1 L u x) d (nI w) (nI i)).2) else (-4, und L (adE L (mv1 L u x) d (nI w) (nI i)).2)
  else (nI 0, stl L (stE L (rel L (mv1 L u x) (ino L (dNow (mv1 L u x)) y)) y (nI w) (nI i)))
def mvC (L : Nat) (u : DSt) (f : Nat → Int32) (d w d2 w2 : Nat) : Int32 × DSt :=
  if 0 ≤ eof L (dNow u) d w then
    if 0 ≤ kfl (iK L (dNow u) d2) 2 then
      if d = d2 ∧ w = w2 then (nI 0, u)
      else if 0 ≤ mvF L (dNow u) f (ino L (dNow u) (eof L (dNow u) d w)) d2 (ent L (dNow u) d2 w2) then mvD L u (eof L (dNow u) d w) (ino L (dNow u) (eof L (dNow u) d w)) d2 w2 (ent L (dNow u) d2 w2)
      else (mvF L (dNow u) f (ino L (dNow u) (eof L (dNow u) d w)) d2 (ent L (dNow u) d2 w2), u)
    else (kfl (iK L (dNow u) d2) 2, u)
  else (eof L (dNow u) d w, u)
/-- remove -/
def rmC (L : Nat) (u : DSt) (d w : Nat) : Int32 × DSt :=
  if 0 ≤ eof L (dNow u) d w then
    if hsE L (dNow u) (ino L (dNow u) (eof L (dNow u) d w)) = true then (-6, u)
    else (nI 0, stl L (rel L (mv1 L u (eof L (dNow u) d w)) (ino L (dNow u) (eof L (dNow u) d w))))
  else (eof L (dNow u) d w, u)

theorem ilG_of (L : Nat) (a : Nat → Int64) : ∀ n i, ilG L a n i ≠ -1 → ∃ j, i ≤ j ∧ j < i + n ∧ ilG L a n i = nI j := by
  intro n
  induction n with
  | zero => intro i h; exact absurd rfl h
  | succ n ih =>
    intro i h
    by_cases hk : iK L a i = 0
    · exact ⟨i, Nat.le_refl _, by omega, by rw [ilG, if_pos hk]⟩
    · rw [ilG, if_neg hk] at h ⊢
      obtain ⟨j, h1, h2, h3⟩ := ih (i + 1) h
      exact ⟨j, by omega, by omega, h3⟩
theorem ilf_of {L : Nat} {a : Nat → Int64} (h : ¬ ilf L a = -1) : ∃ j, j < 64 ∧ ilf L a = nI j := by
  obtain ⟨j, -, h2, h3⟩ := ilG_of L a 64 0 h
  exact ⟨j, by omega, h3⟩
/-- the byte i of v, as feed stores it -/
def fby (v : Int64) (i : Nat) : Int32 := (((v.toUInt64 >>> ((nI (8 * i)).toInt64.toUInt64 &&& Int64.toUInt64 63)).toInt64).toInt32 &&& nI 255)
def fdT (tp : Nat → Int32) (n : Nat) (v : Int64) : Nat → (Nat → Int32)
  | 0 => tp
  | i + 1 => va_up (fdT tp n v i) (n + i) (fby v i)
theorem hby_in {L b j : Nat} (hb : b < L) (hj : j < 64) (hL : L ≤ 768) : (hsB L (nI b) && !decide (nI j < 0 ∨ nI 64 ≤ nI j)) = true := by
  rw [hsB_in hb hL]
  have h1 : ¬ nI j < 0 := nI_pos (by omega)
  have h2 : ¬ nI 64 ≤ nI j := nI_ge hj (by decide)
  simp only [h1, h2, or_self, decide_false, Bool.not_false, Bool.and_self]
/-- what move leaves in the parents -/
def mv2 (L : Nat) (a : Nat → Int64) (f : Nat → Int32) (d w d2 w2 : Nat) : Nat → Int32 :=
  if 0 ≤ eof L a d w ∧ 0 ≤ kfl (iK L a d2) 2 ∧ ¬ (d = d2 ∧ w = w2) then mvP L a f (ino L a (eof L a d w)) (ent L a d2 w2) else f
def ndC (L : Nat) (a : Nat → Int64) (i w : Nat) : Nat := if w = 0 then iK L a i else if w = 1 then iS L a i else if w = 2 then iX L a i else if w % 2 = 1 then xF L a i ((w - 3) / 2) else xL L a i ((w - 3) / 2)
def lkC (L : Nat) (u : DSt) (n w : Nat) : Int32 := match w with
  | 0 => nI L
  | 1 => nI (fbs L (dNow u))
  | 2 => nI (iok L (dNow u) 0)
  | 3 => nI (dct L (dDif u))
  | 4 => dEa u
  | 5 => nI n
  | _ => nI (iok L (dNow u) 2)
end
section
theorem d_Tree_checkInode_0 : decode b_Tree_checkInode 0 = .ok (.iload_n 0, 1) := by decide +kernel
theorem d_Tree_checkInode_1 : decode b_Tree_checkInode 1 = .ok (.ifCond .lt 9, 3) := by decide +kernel
theorem d_Tree_checkInode_4 : decode b_Tree_checkInode 4 = .ok (.iload_n 0, 1) := by decide +kernel
theorem d_Tree_checkInode_5 : decode b_Tree_checkInode 5 = .ok (.bipush 64, 2) := by decide +kernel
theorem d_Tree_checkInode_7 : decode b_Tree_checkInode 7 = .ok (.if_icmp .lt 13, 3) := by decide +kernel
theorem d_Tree_checkInode_10 : decode b_Tree_checkInode 10 = .ok (.new 54, 3) := by decide +kernel
theorem d_Tree_checkInode_13 : decode b_Tree_checkInode 13 = .ok (.dup, 1) := by decide +kernel
theorem d_Tree_checkInode_14 : decode b_Tree_checkInode 14 = .ok (.ldc 188, 2) := by decide +kernel
theorem d_Tree_checkInode_16 : decode b_Tree_checkInode 16 = .ok (.invokespecial 58, 3) := by decide +kernel
theorem d_Tree_checkInode_19 : decode b_Tree_checkInode 19 = .ok (.athrow, 1) := by decide +kernel
theorem d_Tree_checkInode_20 : decode b_Tree_checkInode 20 = .ok (.return_, 1) := by decide +kernel
set_option maxHeartbeats 4000000 in
set_option maxRecDepth 100000 in
theorem c_Tree_checkInode (l : Launch) (i : Nat) (hi0 : i < 64) : RoU l y_Tree_checkInode w_Tree_checkInode ({ frames := 7, cells := 0, slots := 0, locals := 110 }) [.int (nI i)] (fun _ => True) := by
  refine Met.ofW (cc := b_Tree_checkInode) (maxL := 1) (ret := none) (by decide) rfl ?_
  intro p e s m args below meth c s₁ B hml hv
  obtain ⟨rfl, -⟩ := hv
  have hx := B.exec
  have hb := B.bytes
  have hr := B.returns
  have hts := atoms_spec (ws := w_Tree_checkInode) B.pre
  have hTB : ∀ w ∈ lw_tb, w.before _ s = true := fun w h => hts w (List.mem_cons_of_mem _ h)
  have hown : s.vm.findClass R_Tree = some m.cls := findClass_of_methodNamed B.named
  have hlocks := B.notSynchronized
  have hS : va_S (fun _ => False) s.heap s.heap [] := va_S.rf
  have hP : va_P (fun _ => 0, fun _ _ => 0) cl5 [] s.heap := fun k q h => by simp at h
  have hl := lv_entry ([.int (nI i)]) (n := 1) (Nat.le_of_ble_eq_true rfl)
  rw [lg_entry_eq]
  generalize (lg_sl ([.int (nI i)]) ++ List.replicate (1 - (lg_sl ([.int (nI i)])).length) Slot.unset).toArray = ls at hl ⊢
  have hl : lv_has ls 1 [(0, .int (nI i))] := hl
  refine lv_iload_n hx hb d_Tree_checkInode_0 rfl (lv_at hl 0 rfl) ?_
  refine gz_if_lt (tgt := 10) hx hb d_Tree_checkInode_1 (by decide) (by omega) ?_
  refine lv_iload_n hx hb d_Tree_checkInode_4 rfl (lv_at hl 0 rfl) ?_
  refine lv_bipush (v := nI 64) hx hb d_Tree_checkInode_5 (by decide +kernel) ?_
  refine gz_icmp_lt (tgt := 20) hx hb d_Tree_checkInode_7 (by decide) (by omega) (by omega) (fun h7 => ?_) (fun h7 => ?_)
  · exact W.vret hx hb hr (fun tt9 ht9 hW9 => ⟨⟨(), rfl, trivial, trivial⟩, hS.F ht9⟩) hS.2.2 d_Tree_checkInode_20
  · exact absurd h7 (by omega)
theorem d_Tree_checkName_0 : decode b_Tree_checkName 0 = .ok (.iload_n 0, 1) := by decide +kernel
theorem d_Tree_checkName_1 : decode b_Tree_checkName 1 = .ok (.iconst 1, 1) := by decide +kernel
theorem d_Tree_checkName_2 : decode b_Tree_checkName 2 = .ok (.if_icmp .lt 9, 3) := by decide +kernel
theorem d_Tree_checkName_5 : decode b_Tree_checkName 5 = .ok (.iload_n 0, 1) := by decide +kernel
theorem d_Tree_checkName_6 : decode b_Tree_checkName 6 = .ok (.ldc 190, 2) := by decide +kernel
theorem d_Tree_checkName_8 : decode b_Tree_checkName 8 = .ok (.if_icmp .le 13, 3) := by decide +kernel
theorem d_Tree_checkName_11 : decode b_Tree_checkName 11 = .ok (.new 54, 3) := by decide +kernel
theorem d_Tree_checkName_14 : decode b_Tree_checkName 14 = .ok (.dup, 1) := by decide +kernel
theorem d_Tree_checkName_15 : decode b_Tree_checkName 15 = .ok (.ldc 191, 2) := by decide +kernel
theorem d_Tree_checkName_17 : decode b_Tree_checkName 17 = .ok (.invokespecial 58, 3) := by decide +kernel
theorem d_Tree_checkName_20 : decode b_Tree_checkName 20 = .ok (.athrow, 1) := by decide +kernel
theorem d_Tree_checkName_21 : decode b_Tree_checkName 21 = .ok (.return_, 1) := by decide +kernel
set_option maxHeartbeats 4000000 in
set_option maxRecDepth 100000 in
theorem c_Tree_checkName (l : Launch) (w : Nat) (hw1 : 1 ≤ w) (hw2 : w ≤ 65535) : RoU l y_Tree_checkName w_Tree_checkName ({ frames := 7, cells := 0, slots := 0, locals := 110 }) [.int (nI w)] (fun _ => True) := by
  refine Met.ofW (cc := b_Tree_checkName) (maxL := 1) (ret := none) (by decide) rfl ?_
  intro p e s m args below meth c s₁ B hml hv
  obtain ⟨rfl, -⟩ := hv
  have hx := B.exec
  have hb := B.bytes
  have hr := B.returns
  have hts := atoms_spec (ws := w_Tree_checkName) B.pre
  have hTB : ∀ w ∈ lw_tb, w.before _ s = true := fun w h => hts w (List.mem_cons_of_mem _ h)
  have hown : s.vm.findClass R_Tree = some m.cls := findClass_of_methodNamed B.named
  have hlocks := B.notSynchronized
  have hS : va_S (fun _ => False) s.heap s.heap [] := va_S.rf
  have hP : va_P (fun _ => 0, fun _ _ => 0) cl5 [] s.heap := fun k q h => by simp at h
  have hl := lv_entry ([.int (nI w)]) (n := 1) (Nat.le_of_ble_eq_true rfl)
  rw [lg_entry_eq]
  generalize (lg_sl ([.int (nI w)]) ++ List.replicate (1 - (lg_sl ([.int (nI w)])).length) Slot.unset).toArray = ls at hl ⊢
  have hl : lv_has ls 1 [(0, .int (nI w))] := hl
  refine lv_iload_n hx hb d_Tree_checkName_0 rfl (lv_at hl 0 rfl) ?_
  refine lv_iconst (v := nI 1) hx hb d_Tree_checkName_1 (by decide +kernel) ?_
  refine gz_icmp_lt (tgt := 11) hx hb d_Tree_checkName_2 (by decide) (by omega) (by omega) (fun h2 => ?_) (fun h2 => ?_)
  · exact absurd h2 (by omega)
  · refine lv_iload_n hx hb d_Tree_checkName_5 rfl (lv_at hl 0 rfl) ?_
    refine lv_ldc (v := nI 65535) hx hb hown (hTB _ k_334) d_Tree_checkName_6 ?_
    refine gz_icmp_le (tgt := 21) hx hb d_Tree_checkName_8 (by decide) (by omega) (by omega) (fun h8 => ?_) (fun h8 => ?_)
    · exact W.vret hx hb hr (fun tt9 ht9 hW9 => ⟨⟨(), rfl, trivial, trivial⟩, hS.F ht9⟩) hS.2.2 d_Tree_checkName_21
    · exact absurd h8 (by omega)
theorem d_Tree_kindFault_0 : decode b_Tree_kindFault 0 = .ok (.aload_n 0, 1) := by decide +kernel
theorem d_Tree_kindFault_1 : decode b_Tree_kindFault 1 = .ok (.getfield 23, 3) := by decide +kernel
theorem d_Tree_kindFault_4 : decode b_Tree_kindFault 4 = .ok (.iload_n 1, 1) := by decide +kernel
theorem d_Tree_kindFault_5 : decode b_Tree_kindFault 5 = .ok (.invokevirtual 152, 3) := by decide +kernel
theorem d_Tree_kindFault_8 : decode b_Tree_kindFault 8 = .ok (.istore_n 3, 1) := by decide +kernel
theorem d_Tree_kindFault_9 : decode b_Tree_kindFault 9 = .ok (.iload_n 3, 1) := by decide +kernel
theorem d_Tree_kindFault_10 : decode b_Tree_kindFault 10 = .ok (.ifCond .ne 5, 3) := by decide +kernel
theorem d_Tree_kindFault_13 : decode b_Tree_kindFault 13 = .ok (.iconst (-1), 1) := by decide +kernel
theorem d_Tree_kindFault_14 : decode b_Tree_kindFault 14 = .ok (.ireturn, 1) := by decide +kernel
theorem d_Tree_kindFault_15 : decode b_Tree_kindFault 15 = .ok (.iload_n 3, 1) := by decide +kernel
theorem d_Tree_kindFault_16 : decode b_Tree_kindFault 16 = .ok (.iload_n 2, 1) := by decide +kernel
theorem d_Tree_kindFault_17 : decode b_Tree_kindFault 17 = .ok (.if_icmp .ne 7, 3) := by decide +kernel
theorem d_Tree_kindFault_20 : decode b_Tree_kindFault 20 = .ok (.iconst 0, 1) := by decide +kernel
theorem d_Tree_kindFault_21 : decode b_Tree_kindFault 21 = .ok (.goto 5, 3) := by decide +kernel
theorem d_Tree_kindFault_24 : decode b_Tree_kindFault 24 = .ok (.bipush (-5), 2) := by decide +kernel
theorem d_Tree_kindFault_26 : decode b_Tree_kindFault 26 = .ok (.ireturn, 1) := by decide +kernel
set_option maxHeartbeats 4000000 in
set_option maxRecDepth 100000 in
theorem c_Tree_kindFault (l : Launch) (D : va_G) (g : Nat → Nat) (k : Nat → ClassId) (L : Nat) (hL0 : 96 ≤ L) (hL : L ≤ 768) (u : DSt) (f0 : Nat → Int32) (tl : Nat) (tp : Nat → Int32) (i c0 : Nat) (hc0 : c0 < 256) : RoI l y_Tree_kindFault w_Tree_kindFault ({ frames := 2, cells := 0, slots := 0, locals := 42 }) [.ref (g 9), .int (nI i), .int (nI c0)] (RoP D cl5 (tyC k) (wT g k L u f0 tl tp)) (kfl (iK L (dNow u) i) c0) := by
  refine Met.ofW (cc := b_Tree_kindFault) (maxL := 4) (ret := (some .int)) (by decide) rfl ?_
  intro p e s m args below meth c s₁ B hml hv
  obtain ⟨rfl, hP, hK⟩ := hv
  have hx := B.exec
  have hb := B.bytes
  have hr := B.returns
  have hts := atoms_spec (ws := w_Tree_kindFault) B.pre
  have hTB : ∀ w ∈ lw_tb, w.before _ s = true := fun w h => hts w (List.mem_cons_of_mem _ h)
  have hown : s.vm.findClass R_Tree = some m.cls := findClass_of_methodNamed B.named
  have hlocks := B.notSynchronized
  have hS : va_S (fun _ => False) s.heap s.heap [] := va_S.rf
  have hl := lv_entry ([.ref (g 9), .int (nI i), .int (nI c0)]) (n := 4) (Nat.le_of_ble_eq_true rfl)
  rw [lg_entry_eq]
  generalize (lg_sl ([.ref (g 9), .int (nI i), .int (nI c0)]) ++ List.replicate (4 - (lg_sl ([.ref (g 9), .int (nI i), .int (nI c0)])).length) Slot.unset).toArray = ls at hl ⊢
  have hl : lv_has ls 4 [(0, .ref (g 9)), (1, .int (nI i)), (2, .int (nI c0))] := hl
  refine lv_aload_n hx hb d_Tree_kindFault_0 rfl (lv_at hl 0 rfl) ?_
  refine va_get (D := D) (ci := 3) (v := .ref (g 6)) (C := R_Tree) (T := T_Tree) (N := 5) hx hb hTB in_Tree hown hK hP 0 rfl rfl 1 (by decide) (hTB _ k_196) (fun _ h9 => h9) rfl d_Tree_kindFault_1 ?_
  refine lv_iload_n hx hb d_Tree_kindFault_4 rfl (lv_at hl 1 rfl) ?_
  refine gz_roV (As := [.int (nI i)]) (rest := []) (wc := (wI g k L u)) ⟨hx, hb, hml, hown, hTB⟩ (c_Inodes_kind l D g k L hL0 hL u i) (cwV 1 hTB (gd_V k_340 k_341 k_342 k_54 k_343) rfl rfl rfl (by decide +kernel) ⟨Nat.le_of_ble_eq_true rfl, Nat.le_of_ble_eq_true rfl⟩) hK hP [4, 5, 6, 7, 8, 9, 10] rfl 4 rfl rfl rfl hl.1 rfl (Nat.le_of_ble_eq_true rfl) d_Tree_kindFault_5 ⟨Nat.zero_le _, Nat.zero_le _⟩ hS (fun H locs hP hS => ?_)
  have := iK_lt L (dNow u) i
  refine lv_istore_n (lv' := [(3, .int (nI (iK L (dNow u) i))), (0, .ref (g 9)), (1, .int (nI i)), (2, .int (nI c0))]) hx hb d_Tree_kindFault_8 rfl hl (by decide) rfl (fun ls hl => ?_)
  refine lv_iload_n hx hb d_Tree_kindFault_9 rfl (lv_at hl 0 rfl) ?_
  refine gz_if_ne (tgt := 15) hx hb d_Tree_kindFault_10 (by decide) (by omega) (fun h10 => ?_) (fun h10 => ?_)
  · refine lv_iload_n hx hb d_Tree_kindFault_15 rfl (lv_at hl 0 rfl) ?_
    refine lv_iload_n hx hb d_Tree_kindFault_16 rfl (lv_at hl 3 rfl) ?_
    refine gz_icmp_ne (tgt := 24) hx hb d_Tree_kindFault_17 (by decide) (by omega) (by omega) (fun h17 => ?_) (fun h17 => ?_)
    · refine lv_bipush (v := (-5)) hx hb d_Tree_kindFault_24 (by decide +kernel) ?_
      exact W.iret (v := (-5)) hx hb hr (fun tt9 ht9 hW9 => ⟨⟨_, (), rfl, (by unfold kfl; rw [if_neg h10, if_neg h17]), trivial⟩, hS.F ht9⟩) hS.2.2 d_Tree_kindFault_26
    · refine lv_iconst (v := nI 0) hx hb d_Tree_kindFault_20 (by decide +kernel) ?_
      refine lv_goto (tgt := 26) hx hb d_Tree_kindFault_21 (by decide) ?_
      exact W.iret (v := nI 0) hx hb hr (fun tt9 ht9 hW9 => ⟨⟨_, (), rfl, (by unfold kfl; rw [if_neg h10, if_pos h17]), trivial⟩, hS.F ht9⟩) hS.2.2 d_Tree_kindFault_26
  · refine lv_iconst (v := (-1)) hx hb d_Tree_kindFault_13 (by decide +kernel) ?_
    exact W.iret (v := (-1)) hx hb hr (fun tt9 ht9 hW9 => ⟨⟨_, (), rfl, (by unfold kfl; rw [if_pos h10]), trivial⟩, hS.F ht9⟩) hS.2.2 d_Tree_kindFault_14
theorem d_Tree_entryOrFault_0 : decode b_Tree_entryOrFault 0 = .ok (.aload_n 0, 1) := by decide +kernel
theorem d_Tree_entryOrFault_1 : decode b_Tree_entryOrFault 1 = .ok (.iload_n 1, 1) := by decide +kernel
theorem d_Tree_entryOrFault_2 : decode b_Tree_entryOrFault 2 = .ok (.iconst 2, 1) := by decide +kernel
theorem d_Tree_entryOrFault_3 : decode b_Tree_entryOrFault 3 = .ok (.invokevirtual 72, 3) := by decide +kernel
theorem d_Tree_entryOrFault_6 : decode b_Tree_entryOrFault 6 = .ok (.istore_n 3, 1) := by decide +kernel
theorem d_Tree_entryOrFault_7 : decode b_Tree_entryOrFault 7 = .ok (.iload_n 3, 1) := by decide +kernel
theorem d_Tree_entryOrFault_8 : decode b_Tree_entryOrFault 8 = .ok (.ifCond .ge 5, 3) := by decide +kernel
theorem d_Tree_entryOrFault_11 : decode b_Tree_entryOrFault 11 = .ok (.iload_n 3, 1) := by decide +kernel
theorem d_Tree_entryOrFault_12 : decode b_Tree_entryOrFault 12 = .ok (.ireturn, 1) := by decide +kernel
theorem d_Tree_entryOrFault_13 : decode b_Tree_entryOrFault 13 = .ok (.aload_n 0, 1) := by decide +kernel
theorem d_Tree_entryOrFault_14 : decode b_Tree_entryOrFault 14 = .ok (.getfield 32, 3) := by decide +kernel
theorem d_Tree_entryOrFault_17 : decode b_Tree_entryOrFault 17 = .ok (.iload_n 1, 1) := by decide +kernel
theorem d_Tree_entryOrFault_18 : decode b_Tree_entryOrFault 18 = .ok (.iload_n 2, 1) := by decide +kernel
theorem d_Tree_entryOrFault_19 : decode b_Tree_entryOrFault 19 = .ok (.invokevirtual 76, 3) := by decide +kernel
theorem d_Tree_entryOrFault_22 : decode b_Tree_entryOrFault 22 = .ok (.istore 4, 2) := by decide +kernel
theorem d_Tree_entryOrFault_24 : decode b_Tree_entryOrFault 24 = .ok (.iload 4, 2) := by decide +kernel
theorem d_Tree_entryOrFault_26 : decode b_Tree_entryOrFault 26 = .ok (.iconst (-1), 1) := by decide +kernel
theorem d_Tree_entryOrFault_27 : decode b_Tree_entryOrFault 27 = .ok (.if_icmp .ne 7, 3) := by decide +kernel
theorem d_Tree_entryOrFault_30 : decode b_Tree_entryOrFault 30 = .ok (.iconst (-1), 1) := by decide +kernel
theorem d_Tree_entryOrFault_31 : decode b_Tree_entryOrFault 31 = .ok (.goto 5, 3) := by decide +kernel
theorem d_Tree_entryOrFault_34 : decode b_Tree_entryOrFault 34 = .ok (.iload 4, 2) := by decide +kernel
theorem d_Tree_entryOrFault_36 : decode b_Tree_entryOrFault 36 = .ok (.ireturn, 1) := by decide +kernel
set_option maxHeartbeats 4000000 in
set_option maxRecDepth 100000 in
theorem c_Tree_entryOrFault (l : Launch) (D : va_G) (g : Nat → Nat) (k : Nat → ClassId) (L : Nat) (hL0 : 96 ≤ L) (hL : L ≤ 768) (u : DSt) (f0 : Nat → Int32) (tl : Nat) (tp : Nat → Int32) (d w : Nat) (hw0 : w < 65536) : RoI l y_Tree_entryOrFault w_Tree_entryOrFault ({ frames := 5, cells := 0, slots := 0, locals := 115 }) [.ref (g 9), .int (nI d), .int (nI w)] (RoP D cl5 (tyC k) (wT g k L u f0 tl tp)) (eof L (dNow u) d w) := by
  refine Met.ofW (cc := b_Tree_entryOrFault) (maxL := 5) (ret := (some .int)) (by decide) rfl ?_
  intro p e s m args below meth c s₁ B hml hv
  obtain ⟨rfl, hP, hK⟩ := hv
  have hx := B.exec
  have hb := B.bytes
  have hr := B.returns
  have hts := atoms_spec (ws := w_Tree_entryOrFault) B.pre
  have hTB : ∀ w ∈ lw_tb, w.before _ s = true := fun w h => hts w (List.mem_cons_of_mem _ h)
  have hown : s.vm.findClass R_Tree = some m.cls := findClass_of_methodNamed B.named
  have hlocks := B.notSynchronized
  have hS : va_S (fun _ => False) s.heap s.heap [] := va_S.rf
  have hl := lv_entry ([.ref (g 9), .int (nI d), .int (nI w)]) (n := 5) (Nat.le_of_ble_eq_true rfl)
  rw [lg_entry_eq]
  generalize (lg_sl ([.ref (g 9), .int (nI d), .int (nI w)]) ++ List.replicate (5 - (lg_sl ([.ref (g 9), .int (nI d), .int (nI w)])).length) Slot.unset).toArray = ls at hl ⊢
  have hl : lv_has ls 5 [(0, .ref (g 9)), (1, .int (nI d)), (2, .int (nI w))] := hl
  refine lv_aload_n hx hb d_Tree_entryOrFault_0 rfl (lv_at hl 0 rfl) ?_
  refine lv_iload_n hx hb d_Tree_entryOrFault_1 rfl (lv_at hl 1 rfl) ?_
  refine lv_iconst (v := nI 2) hx hb d_Tree_entryOrFault_2 (by decide +kernel) ?_
  refine gz_roV (As := [.int (nI d), .int (nI 2)]) (rest := []) (wc := (wT g k L u f0 tl tp)) ⟨hx, hb, hml, hown, hTB⟩ (c_Tree_kindFault l D g k L hL0 hL u f0 tl tp d 2 (by decide)) (cwV 2 hTB (gd_V k_336 k_338 k_8 k_51 k_339) rfl rfl rfl (by decide +kernel) ⟨Nat.le_of_ble_eq_true rfl, Nat.le_of_ble_eq_true rfl⟩) hK hP [0, 1, 2, 3, 4, 5, 6, 7, 8, 9, 10] rfl 0 rfl rfl rfl hl.1 rfl (Nat.le_of_ble_eq_true rfl) d_Tree_entryOrFault_3 ⟨Nat.zero_le _, Nat.zero_le _⟩ hS (fun H locs hP hS => ?_)
  refine lv_istore_n (lv' := [(3, .int (kfl (iK L (dNow u) d) 2)), (0, .ref (g 9)), (1, .int (nI d)), (2, .int (nI w))]) hx hb d_Tree_entryOrFault_6 rfl hl (by decide) rfl (fun ls hl => ?_)
  refine lv_iload_n hx hb d_Tree_entryOrFault_7 rfl (lv_at hl 0 rfl) ?_
  refine lv_if_ge (tgt := 13) hx hb d_Tree_entryOrFault_8 (by decide) (fun h8 => ?_) (fun h8 => ?_)
  · refine lv_aload_n hx hb d_Tree_entryOrFault_13 rfl (lv_at hl 1 rfl) ?_
    refine va_get (D := D) (ci := 3) (v := .ref (g 7)) (C := R_Tree) (T := T_Tree) (N := 5) hx hb hTB in_Tree hown hK hP 0 rfl rfl 2 (by decide) (hTB _ k_197) (fun _ h9 => h9) rfl d_Tree_entryOrFault_14 ?_
    refine lv_iload_n hx hb d_Tree_entryOrFault_17 rfl (lv_at hl 2 rfl) ?_
    refine lv_iload_n hx hb d_Tree_entryOrFault_18 rfl (lv_at hl 3 rfl) ?_
    refine gz_roV (As := [.int (nI d), .int (nI w)]) (rest := []) (wc := (wR g k L u f0)) ⟨hx, hb, hml, hown, hTB⟩ (c_Dirs_entryNamed l D g k L hL0 hL u f0 d w (by omega)) (cwV 2 hTB (gd_V k_348 k_349 k_350 k_55 k_351) rfl rfl rfl (by decide +kernel) ⟨Nat.le_of_ble_eq_true rfl, Nat.le_of_ble_eq_true rfl⟩) hK hP [2, 3, 4, 5, 6, 7, 8, 9, 10] rfl 2 rfl rfl rfl hl.1 rfl (Nat.le_of_ble_eq_true rfl) d_Tree_entryOrFault_19 ⟨Nat.zero_le _, Nat.zero_le _⟩ hS (fun H locs hP hS => ?_)
    refine lv_istore (lv' := [(4, .int (ent L (dNow u) d w)), (3, .int (kfl (iK L (dNow u) d) 2)), (0, .ref (g 9)), (1, .int (nI d)), (2, .int (nI w))]) hx hb d_Tree_entryOrFault_22 hl (by decide) rfl (fun ls hl => ?_)
    refine lv_iload hx hb d_Tree_entryOrFault_24 (lv_at hl 0 rfl) ?_
    refine lv_iconst (v := (-1)) hx hb d_Tree_entryOrFault_26 (by decide +kernel) ?_
    refine lv_icmp_ne (tgt := 34) hx hb d_Tree_entryOrFault_27 (by decide) (fun h27 => ?_) (fun h27 => ?_)
    · refine lv_iload hx hb d_Tree_entryOrFault_34 (lv_at hl 0 rfl) ?_
      exact W.iret (v := ent L (dNow u) d w) hx hb hr (fun tt9 ht9 hW9 => ⟨⟨_, (), rfl, (by unfold eof; rw [if_pos h8]), trivial⟩, hS.F ht9⟩) hS.2.2 d_Tree_entryOrFault_36
    · refine lv_iconst (v := (-1)) hx hb d_Tree_entryOrFault_30 (by decide +kernel) ?_
      refine lv_goto (tgt := 36) hx hb d_Tree_entryOrFault_31 (by decide) ?_
      exact W.iret (v := (-1)) hx hb hr (fun tt9 ht9 hW9 => ⟨⟨_, (), rfl, (by unfold eof; rw [if_pos h8, h27]), trivial⟩, hS.F ht9⟩) hS.2.2 d_Tree_entryOrFault_36
  · refine lv_iload_n hx hb d_Tree_entryOrFault_11 rfl (lv_at hl 0 rfl) ?_
    exact W.iret (v := kfl (iK L (dNow u) d) 2) hx hb hr (fun tt9 ht9 hW9 => ⟨⟨_, (), rfl, (by unfold eof; rw [if_neg h8]), trivial⟩, hS.F ht9⟩) hS.2.2 d_Tree_entryOrFault_12
theorem d_Tree_hasEntries_0 : decode b_Tree_hasEntries 0 = .ok (.aload_n 0, 1) := by decide +kernel
theorem d_Tree_hasEntries_1 : decode b_Tree_hasEntries 1 = .ok (.getfield 23, 3) := by decide +kernel
theorem d_Tree_hasEntries_4 : decode b_Tree_hasEntries 4 = .ok (.iload_n 1, 1) := by decide +kernel
theorem d_Tree_hasEntries_5 : decode b_Tree_hasEntries 5 = .ok (.invokevirtual 152, 3) := by decide +kernel
theorem d_Tree_hasEntries_8 : decode b_Tree_hasEntries 8 = .ok (.iconst 2, 1) := by decide +kernel
theorem d_Tree_hasEntries_9 : decode b_Tree_hasEntries 9 = .ok (.if_icmp .ne 18, 3) := by decide +kernel
theorem d_Tree_hasEntries_12 : decode b_Tree_hasEntries 12 = .ok (.aload_n 0, 1) := by decide +kernel
theorem d_Tree_hasEntries_13 : decode b_Tree_hasEntries 13 = .ok (.getfield 32, 3) := by decide +kernel
theorem d_Tree_hasEntries_16 : decode b_Tree_hasEntries 16 = .ok (.iload_n 1, 1) := by decide +kernel
theorem d_Tree_hasEntries_17 : decode b_Tree_hasEntries 17 = .ok (.invokevirtual 196, 3) := by decide +kernel
theorem d_Tree_hasEntries_20 : decode b_Tree_hasEntries 20 = .ok (.ifCond .ne 7, 3) := by decide +kernel
theorem d_Tree_hasEntries_23 : decode b_Tree_hasEntries 23 = .ok (.iconst 1, 1) := by decide +kernel
theorem d_Tree_hasEntries_24 : decode b_Tree_hasEntries 24 = .ok (.goto 4, 3) := by decide +kernel
theorem d_Tree_hasEntries_27 : decode b_Tree_hasEntries 27 = .ok (.iconst 0, 1) := by decide +kernel
theorem d_Tree_hasEntries_28 : decode b_Tree_hasEntries 28 = .ok (.ireturn, 1) := by decide +kernel
set_option maxHeartbeats 4000000 in
set_option maxRecDepth 100000 in
theorem c_Tree_hasEntries (l : Launch) (D : va_G) (g : Nat → Nat) (k : Nat → ClassId) (L : Nat) (hL0 : 96 ≤ L) (hL : L ≤ 768) (u : DSt) (f0 : Nat → Int32) (tl : Nat) (tp : Nat → Int32) (i : Nat) : RoI l y_Tree_hasEntries w_Tree_hasEntries ({ frames := 5, cells := 0, slots := 0, locals := 113 }) [.ref (g 9), .int (nI i)] (RoP D cl5 (tyC k) (wT g k L u f0 tl tp)) (zI (hsE L (dNow u) i)) := by
  refine Met.ofW (cc := b_Tree_hasEntries) (maxL := 2) (ret := (some .boolean)) (by decide) rfl ?_
  intro p e s m args below meth c s₁ B hml hv
  obtain ⟨rfl, hP, hK⟩ := hv
  have hx := B.exec
  have hb := B.bytes
  have hr := B.returns
  have hts := atoms_spec (ws := w_Tree_hasEntries) B.pre
  have hTB : ∀ w ∈ lw_tb, w.before _ s = true := fun w h => hts w (List.mem_cons_of_mem _ h)
  have hown : s.vm.findClass R_Tree = some m.cls := findClass_of_methodNamed B.named
  have hlocks := B.notSynchronized
  have hS : va_S (fun _ => False) s.heap s.heap [] := va_S.rf
  have hl := lv_entry ([.ref (g 9), .int (nI i)]) (n := 2) (Nat.le_of_ble_eq_true rfl)
  rw [lg_entry_eq]
  generalize (lg_sl ([.ref (g 9), .int (nI i)]) ++ List.replicate (2 - (lg_sl ([.ref (g 9), .int (nI i)])).length) Slot.unset).toArray = ls at hl ⊢
  have hl : lv_has ls 2 [(0, .ref (g 9)), (1, .int (nI i))] := hl
  refine lv_aload_n hx hb d_Tree_hasEntries_0 rfl (lv_at hl 0 rfl) ?_
  refine va_get (D := D) (ci := 3) (v := .ref (g 6)) (C := R_Tree) (T := T_Tree) (N := 5) hx hb hTB in_Tree hown hK hP 0 rfl rfl 1 (by decide) (hTB _ k_196) (fun _ h9 => h9) rfl d_Tree_hasEntries_1 ?_
  refine lv_iload_n hx hb d_Tree_hasEntries_4 rfl (lv_at hl 1 rfl) ?_
  refine gz_roV (As := [.int (nI i)]) (rest := []) (wc := (wI g k L u)) ⟨hx, hb, hml, hown, hTB⟩ (c_Inodes_kind l D g k L hL0 hL u i) (cwV 1 hTB (gd_V k_340 k_341 k_342 k_54 k_343) rfl rfl rfl (by decide +kernel) ⟨Nat.le_of_ble_eq_true rfl, Nat.le_of_ble_eq_true rfl⟩) hK hP [4, 5, 6, 7, 8, 9, 10] rfl 4 rfl rfl rfl hl.1 rfl (Nat.le_of_ble_eq_true rfl) d_Tree_hasEntries_5 ⟨Nat.zero_le _, Nat.zero_le _⟩ hS (fun H locs hP hS => ?_)
  have := iK_lt L (dNow u) i
  refine lv_iconst (v := nI 2) hx hb d_Tree_hasEntries_8 (by decide +kernel) ?_
  refine gz_icmp_ne (tgt := 27) hx hb d_Tree_hasEntries_9 (by decide) (by omega) (by omega) (fun h9 => ?_) (fun h9 => ?_)
  · refine lv_iconst (v := nI 0) hx hb d_Tree_hasEntries_27 (by decide +kernel) ?_
    exact W.zret (v := nI 0) (ty := .boolean) hx hb hr (by decide +kernel) (fun tt9 ht9 hW9 => ⟨⟨_, (), rfl, (by unfold hsE; rw [decide_eq_false h9]; rfl), trivial⟩, hS.F ht9⟩) hS.2.2 d_Tree_hasEntries_28
  · refine lv_aload_n hx hb d_Tree_hasEntries_12 rfl (lv_at hl 0 rfl) ?_
    refine va_get (D := D) (ci := 3) (v := .ref (g 7)) (C := R_Tree) (T := T_Tree) (N := 5) hx hb hTB in_Tree hown hK hP 0 rfl rfl 2 (by decide) (hTB _ k_197) (fun _ h9 => h9) rfl d_Tree_hasEntries_13 ?_
    refine lv_iload_n hx hb d_Tree_hasEntries_16 rfl (lv_at hl 1 rfl) ?_
    refine gz_roV (As := [.int (nI i)]) (rest := []) (wc := (wR g k L u f0)) ⟨hx, hb, hml, hown, hTB⟩ (c_Dirs_isEmpty l D g k L hL0 hL u f0 i) (cwV 1 hTB (gd_V k_516 k_517 k_518 k_55 k_519) rfl rfl rfl (by decide +kernel) ⟨Nat.le_of_ble_eq_true rfl, Nat.le_of_ble_eq_true rfl⟩) hK hP [2, 3, 4, 5, 6, 7, 8, 9, 10] rfl 2 rfl rfl rfl hl.1 rfl (Nat.le_of_ble_eq_true rfl) d_Tree_hasEntries_17 ⟨Nat.zero_le _, Nat.zero_le _⟩ hS (fun H locs hP hS => ?_)
    refine gz_ifz_ne (tgt := 27) hx hb d_Tree_hasEntries_20 (by decide) (fun h20 => ?_) (fun h20 => ?_)
    · refine lv_iconst (v := nI 0) hx hb d_Tree_hasEntries_27 (by decide +kernel) ?_
      exact W.zret (v := nI 0) (ty := .boolean) hx hb hr (by decide +kernel) (fun tt9 ht9 hW9 => ⟨⟨_, (), rfl, (by unfold hsE; rw [decide_eq_true h9, h20]; rfl), trivial⟩, hS.F ht9⟩) hS.2.2 d_Tree_hasEntries_28
    · refine lv_iconst (v := nI 1) hx hb d_Tree_hasEntries_23 (by decide +kernel) ?_
      refine lv_goto (tgt := 28) hx hb d_Tree_hasEntries_24 (by decide) ?_
      exact W.zret (v := nI 1) (ty := .boolean) hx hb hr (by decide +kernel) (fun tt9 ht9 hW9 => ⟨⟨_, (), rfl, (by unfold hsE; rw [decide_eq_true h9, h20]; rfl), trivial⟩, hS.F ht9⟩) hS.2.2 d_Tree_hasEntries_28
theorem d_Tree_moveFault_0 : decode b_Tree_moveFault 0 = .ok (.aload_n 0, 1) := by decide +kernel
theorem d_Tree_moveFault_1 : decode b_Tree_moveFault 1 = .ok (.getfield 23, 3) := by decide +kernel
theorem d_Tree_moveFault_4 : decode b_Tree_moveFault 4 = .ok (.iload_n 1, 1) := by decide +kernel
theorem d_Tree_moveFault_5 : decode b_Tree_moveFault 5 = .ok (.invokevirtual 152, 3) := by decide +kernel
theorem d_Tree_moveFault_8 : decode b_Tree_moveFault 8 = .ok (.iconst 2, 1) := by decide +kernel
theorem d_Tree_moveFault_9 : decode b_Tree_moveFault 9 = .ok (.if_icmp .ne 7, 3) := by decide +kernel
theorem d_Tree_moveFault_12 : decode b_Tree_moveFault 12 = .ok (.iconst 1, 1) := by decide +kernel
theorem d_Tree_moveFault_13 : decode b_Tree_moveFault 13 = .ok (.goto 4, 3) := by decide +kernel
theorem d_Tree_moveFault_16 : decode b_Tree_moveFault 16 = .ok (.iconst 0, 1) := by decide +kernel
theorem d_Tree_moveFault_17 : decode b_Tree_moveFault 17 = .ok (.istore 4, 2) := by decide +kernel
theorem d_Tree_moveFault_19 : decode b_Tree_moveFault 19 = .ok (.iload_n 3, 1) := by decide +kernel
theorem d_Tree_moveFault_20 : decode b_Tree_moveFault 20 = .ok (.iconst (-1), 1) := by decide +kernel
theorem d_Tree_moveFault_21 : decode b_Tree_moveFault 21 = .ok (.if_icmp .eq 51, 3) := by decide +kernel
theorem d_Tree_moveFault_24 : decode b_Tree_moveFault 24 = .ok (.aload_n 0, 1) := by decide +kernel
theorem d_Tree_moveFault_25 : decode b_Tree_moveFault 25 = .ok (.getfield 32, 3) := by decide +kernel
theorem d_Tree_moveFault_28 : decode b_Tree_moveFault 28 = .ok (.iload_n 3, 1) := by decide +kernel
theorem d_Tree_moveFault_29 : decode b_Tree_moveFault 29 = .ok (.invokevirtual 93, 3) := by decide +kernel
theorem d_Tree_moveFault_32 : decode b_Tree_moveFault 32 = .ok (.istore 5, 2) := by decide +kernel
theorem d_Tree_moveFault_34 : decode b_Tree_moveFault 34 = .ok (.iload 4, 2) := by decide +kernel
theorem d_Tree_moveFault_36 : decode b_Tree_moveFault 36 = .ok (.aload_n 0, 1) := by decide +kernel
theorem d_Tree_moveFault_37 : decode b_Tree_moveFault 37 = .ok (.getfield 23, 3) := by decide +kernel
theorem d_Tree_moveFault_40 : decode b_Tree_moveFault 40 = .ok (.iload 5, 2) := by decide +kernel
theorem d_Tree_moveFault_42 : decode b_Tree_moveFault 42 = .ok (.invokevirtual 152, 3) := by decide +kernel
theorem d_Tree_moveFault_45 : decode b_Tree_moveFault 45 = .ok (.iconst 2, 1) := by decide +kernel
theorem d_Tree_moveFault_46 : decode b_Tree_moveFault 46 = .ok (.if_icmp .ne 7, 3) := by decide +kernel
theorem d_Tree_moveFault_49 : decode b_Tree_moveFault 49 = .ok (.iconst 1, 1) := by decide +kernel
theorem d_Tree_moveFault_50 : decode b_Tree_moveFault 50 = .ok (.goto 4, 3) := by decide +kernel
theorem d_Tree_moveFault_53 : decode b_Tree_moveFault 53 = .ok (.iconst 0, 1) := by decide +kernel
theorem d_Tree_moveFault_54 : decode b_Tree_moveFault 54 = .ok (.if_icmp .eq 6, 3) := by decide +kernel
theorem d_Tree_moveFault_57 : decode b_Tree_moveFault 57 = .ok (.bipush (-5), 2) := by decide +kernel
theorem d_Tree_moveFault_59 : decode b_Tree_moveFault 59 = .ok (.ireturn, 1) := by decide +kernel
theorem d_Tree_moveFault_60 : decode b_Tree_moveFault 60 = .ok (.aload_n 0, 1) := by decide +kernel
theorem d_Tree_moveFault_61 : decode b_Tree_moveFault 61 = .ok (.iload 5, 2) := by decide +kernel
theorem d_Tree_moveFault_63 : decode b_Tree_moveFault 63 = .ok (.invokevirtual 137, 3) := by decide +kernel
theorem d_Tree_moveFault_66 : decode b_Tree_moveFault 66 = .ok (.ifCond .eq 6, 3) := by decide +kernel
theorem d_Tree_moveFault_69 : decode b_Tree_moveFault 69 = .ok (.bipush (-6), 2) := by decide +kernel
theorem d_Tree_moveFault_71 : decode b_Tree_moveFault 71 = .ok (.ireturn, 1) := by decide +kernel
theorem d_Tree_moveFault_72 : decode b_Tree_moveFault 72 = .ok (.iload 4, 2) := by decide +kernel
theorem d_Tree_moveFault_74 : decode b_Tree_moveFault 74 = .ok (.ifCond .eq 20, 3) := by decide +kernel
theorem d_Tree_moveFault_77 : decode b_Tree_moveFault 77 = .ok (.aload_n 0, 1) := by decide +kernel
theorem d_Tree_moveFault_78 : decode b_Tree_moveFault 78 = .ok (.getfield 32, 3) := by decide +kernel
theorem d_Tree_moveFault_81 : decode b_Tree_moveFault 81 = .ok (.iload_n 2, 1) := by decide +kernel
theorem d_Tree_moveFault_82 : decode b_Tree_moveFault 82 = .ok (.iload_n 1, 1) := by decide +kernel
theorem d_Tree_moveFault_83 : decode b_Tree_moveFault 83 = .ok (.invokevirtual 193, 3) := by decide +kernel
theorem d_Tree_moveFault_86 : decode b_Tree_moveFault 86 = .ok (.ifCond .eq 8, 3) := by decide +kernel
theorem d_Tree_moveFault_89 : decode b_Tree_moveFault 89 = .ok (.bipush (-7), 2) := by decide +kernel
theorem d_Tree_moveFault_91 : decode b_Tree_moveFault 91 = .ok (.goto 4, 3) := by decide +kernel
theorem d_Tree_moveFault_94 : decode b_Tree_moveFault 94 = .ok (.iconst 0, 1) := by decide +kernel
theorem d_Tree_moveFault_95 : decode b_Tree_moveFault 95 = .ok (.ireturn, 1) := by decide +kernel
set_option maxHeartbeats 4000000 in
set_option maxRecDepth 100000 in
theorem c_Tree_moveFault (l : Launch) (D : va_G) (g : Nat → Nat) (k : Nat → ClassId) (L : Nat) (hL0 : 96 ≤ L) (hL : L ≤ 768) (u : DSt) (f0 : Nat → Int32) (tl : Nat) (tp : Nat → Int32) (i d : Nat) (x : Int32) (hd0 : d < 64) : MuI l y_Tree_moveFault w_Tree_moveFault ({ frames := 6, cells := 0, slots := 0, locals := 138 }) [.ref (g 9), .int (nI i), .int (nI d), .int (x)] D cl5 (tyC k) (wT g k L u f0 tl tp) (wT g k L u (mvP L (dNow u) f0 i x) tl tp) (mvF L (dNow u) f0 i d x) := by
  intro sz
  refine Met.ofW (cc := b_Tree_moveFault) (maxL := 6) (ret := (some .int)) (by decide) rfl ?_
  intro p e s m args below meth c s₁ B hml hv
  obtain ⟨rfl, hsz, hP, hK, hD0⟩ := hv
  have hx := B.exec
  have hb := B.bytes
  have hr := B.returns
  have hts := atoms_spec (ws := w_Tree_moveFault) B.pre
  have hTB : ∀ w ∈ lw_tb, w.before _ s = true := fun w h => hts w (List.mem_cons_of_mem _ h)
  have hown : s.vm.findClass R_Tree = some m.cls := findClass_of_methodNamed B.named
  have hlocks := B.notSynchronized
  subst hsz
  have hD := hD0.self (sz := s.heap.size)
  generalize hAe : va_A (wT g k L u f0 tl tp) s.heap.size = A at hD ⊢
  have hA : ∀ q : Nat, s.heap.size ≤ q → A q := fun q h => by rw [← hAe]; exact Or.inr h
  have hS : va_S A s.heap s.heap [] := va_S.rf
  have hl := lv_entry ([.ref (g 9), .int (nI i), .int (nI d), .int (x)]) (n := 6) (Nat.le_of_ble_eq_true rfl)
  rw [lg_entry_eq]
  generalize (lg_sl ([.ref (g 9), .int (nI i), .int (nI d), .int (x)]) ++ List.replicate (6 - (lg_sl ([.ref (g 9), .int (nI i), .int (nI d), .int (x)])).length) Slot.unset).toArray = ls at hl ⊢
  have hl : lv_has ls 6 [(0, .ref (g 9)), (1, .int (nI i)), (2, .int (nI d)), (3, .int (x))] := hl
  refine lv_aload_n hx hb d_Tree_moveFault_0 rfl (lv_at hl 0 rfl) ?_
  refine va_get (D := D) (ci := 3) (v := .ref (g 6)) (C := R_Tree) (T := T_Tree) (N := 5) hx hb hTB in_Tree hown hK hP 0 rfl rfl 1 (by decide) (hTB _ k_196) (fun _ h9 => h9) rfl d_Tree_moveFault_1 ?_
  refine lv_iload_n hx hb d_Tree_moveFault_4 rfl (lv_at hl 1 rfl) ?_
  refine gz_roV (As := [.int (nI i)]) (rest := []) (wc := (wI g k L u)) ⟨hx, hb, hml, hown, hTB⟩ (c_Inodes_kind l D g k L hL0 hL u i) (cwV 1 hTB (gd_V k_340 k_341 k_342 k_54 k_343) rfl rfl rfl (by decide +kernel) ⟨Nat.le_of_ble_eq_true rfl, Nat.le_of_ble_eq_true rfl⟩) hK hP [4, 5, 6, 7, 8, 9, 10] rfl 4 rfl rfl rfl hl.1 rfl (Nat.le_of_ble_eq_true rfl) d_Tree_moveFault_5 ⟨Nat.zero_le _, Nat.zero_le _⟩ hS (fun H locs hP hS => ?_)
  have := iK_lt L (dNow u) i
  refine lv_iconst (v := nI 2) hx hb d_Tree_moveFault_8 (by decide +kernel) ?_
  refine gz_icmp_ne (tgt := 16) hx hb d_Tree_moveFault_9 (by decide) (by omega) (by omega) (fun h9 => ?_) (fun h9 => ?_)
  · refine lv_iconst (v := nI 0) hx hb d_Tree_moveFault_16 (by decide +kernel) ?_
    refine lv_istore (lv' := [(4, .int (nI 0)), (0, .ref (g 9)), (1, .int (nI i)), (2, .int (nI d)), (3, .int (x))]) hx hb d_Tree_moveFault_17 hl (by decide) rfl (fun ls hl => ?_)
    refine lv_iload_n hx hb d_Tree_moveFault_19 rfl (lv_at hl 4 rfl) ?_
    refine lv_iconst (v := (-1)) hx hb d_Tree_moveFault_20 (by decide +kernel) ?_
    refine lv_icmp_eq (tgt := 72) hx hb d_Tree_moveFault_21 (by decide) (fun h21 => ?_) (fun h21 => ?_)
    · refine lv_iload hx hb d_Tree_moveFault_72 (lv_at hl 0 rfl) ?_
      refine gz_if_eq (tgt := 94) hx hb d_Tree_moveFault_74 (by decide) (by decide) (fun h74 => ?_) (fun h74 => absurd h74 (by decide))
      refine lv_iconst (v := nI 0) hx hb d_Tree_moveFault_94 (by decide +kernel) ?_
      have hP9 : va_P D cl5 (wT g k L u (mvP L (dNow u) f0 i x) tl tp) H := (by rw [show mvP L (dNow u) f0 i x = f0 from by unfold mvP; simp [h9, h21]]; exact hP)
      have hD9 : va_D A (wT g k L u (mvP L (dNow u) f0 i x) tl tp) := (by rw [show mvP L (dNow u) f0 i x = f0 from by unfold mvP; simp [h9, h21]]; exact hD)
      exact W.iret (v := nI 0) hx hb hr (fun tt9 ht9 hW9 => ⟨⟨_, (), rfl, (by unfold mvF; simp [h9, h21]; try rfl), ⟨by rw [ht9]; exact hP9, hD9⟩⟩, hS.F ht9⟩) hS.2.2 d_Tree_moveFault_95
    · refine lv_aload_n hx hb d_Tree_moveFault_24 rfl (lv_at hl 1 rfl) ?_
      refine va_get (D := D) (ci := 3) (v := .ref (g 7)) (C := R_Tree) (T := T_Tree) (N := 5) hx hb hTB in_Tree hown hK hP 0 rfl rfl 2 (by decide) (hTB _ k_197) (fun _ h9 => h9) rfl d_Tree_moveFault_25 ?_
      refine lv_iload_n hx hb d_Tree_moveFault_28 rfl (lv_at hl 4 rfl) ?_
      refine gz_roV (As := [.int (x)]) (rest := []) (wc := (wR g k L u f0)) ⟨hx, hb, hml, hown, hTB⟩ (c_Dirs_inodeOf l D g k L hL0 hL u f0 x) (cwV 1 hTB (gd_V k_450 k_451 k_452 k_55 k_453) rfl rfl rfl (by decide +kernel) ⟨Nat.le_of_ble_eq_true rfl, Nat.le_of_ble_eq_true rfl⟩) hK hP [2, 3, 4, 5, 6, 7, 8, 9, 10] rfl 2 rfl rfl rfl hl.1 rfl (Nat.le_of_ble_eq_true rfl) d_Tree_moveFault_29 ⟨Nat.zero_le _, Nat.zero_le _⟩ hS (fun H locs hP hS => ?_)
      have := ino_lt L (dNow u) x
      refine lv_istore (lv' := [(5, .int (nI (ino L (dNow u) x))), (4, .int (nI 0)), (0, .ref (g 9)), (1, .int (nI i)), (2, .int (nI d)), (3, .int (x))]) hx hb d_Tree_moveFault_32 hl (by decide) rfl (fun ls hl => ?_)
      refine lv_iload hx hb d_Tree_moveFault_34 (lv_at hl 1 rfl) ?_
      refine lv_aload_n hx hb d_Tree_moveFault_36 rfl (lv_at hl 2 rfl) ?_
      refine va_get (D := D) (ci := 3) (v := .ref (g 6)) (C := R_Tree) (T := T_Tree) (N := 5) hx hb hTB in_Tree hown hK hP 0 rfl rfl 1 (by decide) (hTB _ k_196) (fun _ h9 => h9) rfl d_Tree_moveFault_37 ?_
      refine lv_iload hx hb d_Tree_moveFault_40 (lv_at hl 0 rfl) ?_
      refine gz_roV (As := [.int (nI (ino L (dNow u) x))]) (rest := [.int (nI 0)]) (wc := (wI g k L u)) ⟨hx, hb, hml, hown, hTB⟩ (c_Inodes_kind l D g k L hL0 hL u (ino L (dNow u) x)) (cwV 1 hTB (gd_V k_340 k_341 k_342 k_54 k_343) rfl rfl rfl (by decide +kernel) ⟨Nat.le_of_ble_eq_true rfl, Nat.le_of_ble_eq_true rfl⟩) hK hP [4, 5, 6, 7, 8, 9, 10] rfl 4 rfl rfl rfl hl.1 rfl (Nat.le_of_ble_eq_true rfl) d_Tree_moveFault_42 ⟨Nat.zero_le _, Nat.zero_le _⟩ hS (fun H locs hP hS => ?_)
      have := iK_lt L (dNow u) (ino L (dNow u) x)
      refine lv_iconst (v := nI 2) hx hb d_Tree_moveFault_45 (by decide +kernel) ?_
      refine gz_icmp_ne (tgt := 53) hx hb d_Tree_moveFault_46 (by decide) (by omega) (by omega) (fun h46 => ?_) (fun h46 => ?_)
      · refine lv_iconst (v := nI 0) hx hb d_Tree_moveFault_53 (by decide +kernel) ?_
        refine gz_icmp_eq (tgt := 60) hx hb d_Tree_moveFault_54 (by decide) (by decide) (by decide) (fun h54 => ?_) (fun h54 => absurd h54 (by decide))
        refine lv_aload_n hx hb d_Tree_moveFault_60 rfl (lv_at hl 2 rfl) ?_
        refine lv_iload hx hb d_Tree_moveFault_61 (lv_at hl 0 rfl) ?_
        refine gz_roV (As := [.int (nI (ino L (dNow u) x))]) (rest := []) (wc := (wT g k L u f0 tl tp)) ⟨hx, hb, hml, hown, hTB⟩ (c_Tree_hasEntries l D g k L hL0 hL u f0 tl tp (ino L (dNow u) x)) (cwV 1 hTB (gd_V k_512 k_514 k_13 k_51 k_515) rfl rfl rfl (by decide +kernel) ⟨Nat.le_of_ble_eq_true rfl, Nat.le_of_ble_eq_true rfl⟩) hK hP [0, 1, 2, 3, 4, 5, 6, 7, 8, 9, 10] rfl 0 rfl rfl rfl hl.1 rfl (Nat.le_of_ble_eq_true rfl) d_Tree_moveFault_63 ⟨Nat.zero_le _, Nat.zero_le _⟩ hS (fun H locs hP hS => ?_)
        refine gz_ifz_eq (tgt := 72) hx hb d_Tree_moveFault_66 (by decide) (fun h66 => ?_) (fun h66 => ?_)
        · refine lv_iload hx hb d_Tree_moveFault_72 (lv_at hl 1 rfl) ?_
          refine gz_if_eq (tgt := 94) hx hb d_Tree_moveFault_74 (by decide) (by decide) (fun h74 => ?_) (fun h74 => absurd h74 (by decide))
          refine lv_iconst (v := nI 0) hx hb d_Tree_moveFault_94 (by decide +kernel) ?_
          have hP9 : va_P D cl5 (wT g k L u (mvP L (dNow u) f0 i x) tl tp) H := (by rw [show mvP L (dNow u) f0 i x = f0 from by unfold mvP; simp [h9, h21, h46, h66]]; exact hP)
          have hD9 : va_D A (wT g k L u (mvP L (dNow u) f0 i x) tl tp) := (by rw [show mvP L (dNow u) f0 i x = f0 from by unfold mvP; simp [h9, h21, h46, h66]]; exact hD)
          exact W.iret (v := nI 0) hx hb hr (fun tt9 ht9 hW9 => ⟨⟨_, (), rfl, (by unfold mvF; simp [h9, h21, h46, h66]; try rfl), ⟨by rw [ht9]; exact hP9, hD9⟩⟩, hS.F ht9⟩) hS.2.2 d_Tree_moveFault_95
        · refine lv_bipush (v := (-6)) hx hb d_Tree_moveFault_69 (by decide +kernel) ?_
          have hP9 : va_P D cl5 (wT g k L u (mvP L (dNow u) f0 i x) tl tp) H := (by rw [show mvP L (dNow u) f0 i x = f0 from by unfold mvP; simp [h9, h21, h46, h66]]; exact hP)
          have hD9 : va_D A (wT g k L u (mvP L (dNow u) f0 i x) tl tp) := (by rw [show mvP L (dNow u) f0 i x = f0 from by unfold mvP; simp [h9, h21, h46, h66]]; exact hD)
          exact W.iret (v := (-6)) hx hb hr (fun tt9 ht9 hW9 => ⟨⟨_, (), rfl, (by unfold mvF; simp [h9, h21, h46, h66]; try rfl), ⟨by rw [ht9]; exact hP9, hD9⟩⟩, hS.F ht9⟩) hS.2.2 d_Tree_moveFault_71
      · refine lv_iconst (v := nI 1) hx hb d_Tree_moveFault_49 (by decide +kernel) ?_
        refine lv_goto (tgt := 54) hx hb d_Tree_moveFault_50 (by decide) ?_
        refine gz_icmp_eq (tgt := 60) hx hb d_Tree_moveFault_54 (by decide) (by decide) (by decide) (fun h54 => absurd h54 (by decide)) (fun h54 => ?_)
        refine lv_bipush (v := (-5)) hx hb d_Tree_moveFault_57 (by decide +kernel) ?_
        have hP9 : va_P D cl5 (wT g k L u (mvP L (dNow u) f0 i x) tl tp) H := (by rw [show mvP L (dNow u) f0 i x = f0 from by unfold mvP; simp [h9, h21, h46]]; exact hP)
        have hD9 : va_D A (wT g k L u (mvP L (dNow u) f0 i x) tl tp) := (by rw [show mvP L (dNow u) f0 i x = f0 from by unfold mvP; simp [h9, h21, h46]]; exact hD)
        exact W.iret (v := (-5)) hx hb hr (fun tt9 ht9 hW9 => ⟨⟨_, (), rfl, (by unfold mvF; simp [h9, h21, h46]; try rfl), ⟨by rw [ht9]; exact hP9, hD9⟩⟩, hS.F ht9⟩) hS.2.2 d_Tree_moveFault_59
  · refine lv_iconst (v := nI 1) hx hb d_Tree_moveFault_12 (by decide +kernel) ?_
    refine lv_goto (tgt := 17) hx hb d_Tree_moveFault_13 (by decide) ?_
    refine lv_istore (lv' := [(4, .int (nI 1)), (0, .ref (g 9)), (1, .int (nI i)), (2, .int (nI d)), (3, .int (x))]) hx hb d_Tree_moveFault_17 hl (by decide) rfl (fun ls hl => ?_)
    refine lv_iload_n hx hb d_Tree_moveFault_19 rfl (lv_at hl 4 rfl) ?_
    refine lv_iconst (v := (-1)) hx hb d_Tree_moveFault_20 (by decide +kernel) ?_
    refine lv_icmp_eq (tgt := 72) hx hb d_Tree_moveFault_21 (by decide) (fun h21 => ?_) (fun h21 => ?_)
    · refine lv_iload hx hb d_Tree_moveFault_72 (lv_at hl 0 rfl) ?_
      refine gz_if_eq (tgt := 94) hx hb d_Tree_moveFault_74 (by decide) (by decide) (fun h74 => absurd h74 (by decide)) (fun h74 => ?_)
      refine lv_aload_n hx hb d_Tree_moveFault_77 rfl (lv_at hl 1 rfl) ?_
      refine va_get (D := D) (ci := 3) (v := .ref (g 7)) (C := R_Tree) (T := T_Tree) (N := 5) hx hb hTB in_Tree hown hK hP 0 rfl rfl 2 (by decide) (hTB _ k_197) (fun _ h9 => h9) rfl d_Tree_moveFault_78 ?_
      refine lv_iload_n hx hb d_Tree_moveFault_81 rfl (lv_at hl 3 rfl) ?_
      refine lv_iload_n hx hb d_Tree_moveFault_82 rfl (lv_at hl 2 rfl) ?_
      refine gz_muI (As := [.int (nI d), .int (nI i)]) (rest := []) (wc := (wR g k L u f0)) (w1 := (wR g k L u (fil L (dNow u) f0))) (wr := (hT g k tl tp)) ⟨hx, hb, hml, hown, hTB⟩ (c_Dirs_isWithin l D g k L hL0 hL u f0 d (nI i) (by omega)) (cwV 2 hTB (gd_V k_520 k_521 k_522 k_55 k_523) rfl rfl rfl (by decide +kernel) ⟨Nat.le_of_ble_eq_true rfl, Nat.le_of_ble_eq_true rfl⟩) hK hP hD hA [2, 3, 4, 5, 6, 7, 8, 9, 10] [0, 1] rfl rfl (by decide) rfl (by decide) (by decide) 2 rfl rfl rfl hl.1 rfl (Nat.le_of_ble_eq_true rfl) d_Tree_moveFault_83 ⟨Nat.zero_le _, Nat.zero_le _⟩ hS (fun H locs hP hD hS => ?_)
      have hP : va_P D cl5 (wT g k L u (fil L (dNow u) f0) tl tp) H := hP
      have hD : va_D A (wT g k L u (fil L (dNow u) f0) tl tp) := hD
      refine gz_ifz_eq (tgt := 94) hx hb d_Tree_moveFault_86 (by decide) (fun h86 => ?_) (fun h86 => ?_)
      · refine lv_iconst (v := nI 0) hx hb d_Tree_moveFault_94 (by decide +kernel) ?_
        have hP9 : va_P D cl5 (wT g k L u (mvP L (dNow u) f0 i x) tl tp) H := (by rw [show mvP L (dNow u) f0 i x = fil L (dNow u) f0 from by unfold mvP; simp [h9, h21, h86]]; exact hP)
        have hD9 : va_D A (wT g k L u (mvP L (dNow u) f0 i x) tl tp) := (by rw [show mvP L (dNow u) f0 i x = fil L (dNow u) f0 from by unfold mvP; simp [h9, h21, h86]]; exact hD)
        exact W.iret (v := nI 0) hx hb hr (fun tt9 ht9 hW9 => ⟨⟨_, (), rfl, (by unfold mvF; simp [h9, h21, h86]; try rfl), ⟨by rw [ht9]; exact hP9, hD9⟩⟩, hS.F ht9⟩) hS.2.2 d_Tree_moveFault_95
      · refine lv_bipush (v := (-7)) hx hb d_Tree_moveFault_89 (by decide +kernel) ?_
        refine lv_goto (tgt := 95) hx hb d_Tree_moveFault_91 (by decide) ?_
        have hP9 : va_P D cl5 (wT g k L u (mvP L (dNow u) f0 i x) tl tp) H := (by rw [show mvP L (dNow u) f0 i x = fil L (dNow u) f0 from by unfold mvP; simp [h9, h21, h86]]; exact hP)
        have hD9 : va_D A (wT g k L u (mvP L (dNow u) f0 i x) tl tp) := (by rw [show mvP L (dNow u) f0 i x = fil L (dNow u) f0 from by unfold mvP; simp [h9, h21, h86]]; exact hD)
        exact W.iret (v := (-7)) hx hb hr (fun tt9 ht9 hW9 => ⟨⟨_, (), rfl, (by unfold mvF; simp [h9, h21, h86]; try rfl), ⟨by rw [ht9]; exact hP9, hD9⟩⟩, hS.F ht9⟩) hS.2.2 d_Tree_moveFault_95
    · refine lv_aload_n hx hb d_Tree_moveFault_24 rfl (lv_at hl 1 rfl) ?_
      refine va_get (D := D) (ci := 3) (v := .ref (g 7)) (C := R_Tree) (T := T_Tree) (N := 5) hx hb hTB in_Tree hown hK hP 0 rfl rfl 2 (by decide) (hTB _ k_197) (fun _ h9 => h9) rfl d_Tree_moveFault_25 ?_
      refine lv_iload_n hx hb d_Tree_moveFault_28 rfl (lv_at hl 4 rfl) ?_
      refine gz_roV (As := [.int (x)]) (rest := []) (wc := (wR g k L u f0)) ⟨hx, hb, hml, hown, hTB⟩ (c_Dirs_inodeOf l D g k L hL0 hL u f0 x) (cwV 1 hTB (gd_V k_450 k_451 k_452 k_55 k_453) rfl rfl rfl (by decide +kernel) ⟨Nat.le_of_ble_eq_true rfl, Nat.le_of_ble_eq_true rfl⟩) hK hP [2, 3, 4, 5, 6, 7, 8, 9, 10] rfl 2 rfl rfl rfl hl.1 rfl (Nat.le_of_ble_eq_true rfl) d_Tree_moveFault_29 ⟨Nat.zero_le _, Nat.zero_le _⟩ hS (fun H locs hP hS => ?_)
      have := ino_lt L (dNow u) x
      refine lv_istore (lv' := [(5, .int (nI (ino L (dNow u) x))), (4, .int (nI 1)), (0, .ref (g 9)), (1, .int (nI i)), (2, .int (nI d)), (3, .int (x))]) hx hb d_Tree_moveFault_32 hl (by decide) rfl (fun ls hl => ?_)
      refine lv_iload hx hb d_Tree_moveFault_34 (lv_at hl 1 rfl) ?_
      refine lv_aload_n hx hb d_Tree_moveFault_36 rfl (lv_at hl 2 rfl) ?_
      refine va_get (D := D) (ci := 3) (v := .ref (g 6)) (C := R_Tree) (T := T_Tree) (N := 5) hx hb hTB in_Tree hown hK hP 0 rfl rfl 1 (by decide) (hTB _ k_196) (fun _ h9 => h9) rfl d_Tree_moveFault_37 ?_
      refine lv_iload hx hb d_Tree_moveFault_40 (lv_at hl 0 rfl) ?_
      refine gz_roV (As := [.int (nI (ino L (dNow u) x))]) (rest := [.int (nI 1)]) (wc := (wI g k L u)) ⟨hx, hb, hml, hown, hTB⟩ (c_Inodes_kind l D g k L hL0 hL u (ino L (dNow u) x)) (cwV 1 hTB (gd_V k_340 k_341 k_342 k_54 k_343) rfl rfl rfl (by decide +kernel) ⟨Nat.le_of_ble_eq_true rfl, Nat.le_of_ble_eq_true rfl⟩) hK hP [4, 5, 6, 7, 8, 9, 10] rfl 4 rfl rfl rfl hl.1 rfl (Nat.le_of_ble_eq_true rfl) d_Tree_moveFault_42 ⟨Nat.zero_le _, Nat.zero_le _⟩ hS (fun H locs hP hS => ?_)
      have := iK_lt L (dNow u) (ino L (dNow u) x)
      refine lv_iconst (v := nI 2) hx hb d_Tree_moveFault_45 (by decide +kernel) ?_
      refine gz_icmp_ne (tgt := 53) hx hb d_Tree_moveFault_46 (by decide) (by omega) (by omega) (fun h46 => ?_) (fun h46 => ?_)
      · refine lv_iconst (v := nI 0) hx hb d_Tree_moveFault_53 (by decide +kernel) ?_
        refine gz_icmp_eq (tgt := 60) hx hb d_Tree_moveFault_54 (by decide) (by decide) (by decide) (fun h54 => absurd h54 (by decide)) (fun h54 => ?_)
        refine lv_bipush (v := (-5)) hx hb d_Tree_moveFault_57 (by decide +kernel) ?_
        have hP9 : va_P D cl5 (wT g k L u (mvP L (dNow u) f0 i x) tl tp) H := (by rw [show mvP L (dNow u) f0 i x = f0 from by unfold mvP; simp [h9, h21, h46]]; exact hP)
        have hD9 : va_D A (wT g k L u (mvP L (dNow u) f0 i x) tl tp) := (by rw [show mvP L (dNow u) f0 i x = f0 from by unfold mvP; simp [h9, h21, h46]]; exact hD)
        exact W.iret (v := (-5)) hx hb hr (fun tt9 ht9 hW9 => ⟨⟨_, (), rfl, (by unfold mvF; simp [h9, h21, h46]; try rfl), ⟨by rw [ht9]; exact hP9, hD9⟩⟩, hS.F ht9⟩) hS.2.2 d_Tree_moveFault_59
      · refine lv_iconst (v := nI 1) hx hb d_Tree_moveFault_49 (by decide +kernel) ?_
        refine lv_goto (tgt := 54) hx hb d_Tree_moveFault_50 (by decide) ?_
        refine gz_icmp_eq (tgt := 60) hx hb d_Tree_moveFault_54 (by decide) (by decide) (by decide) (fun h54 => ?_) (fun h54 => absurd h54 (by decide))
        refine lv_aload_n hx hb d_Tree_moveFault_60 rfl (lv_at hl 2 rfl) ?_
        refine lv_iload hx hb d_Tree_moveFault_61 (lv_at hl 0 rfl) ?_
        refine gz_roV (As := [.int (nI (ino L (dNow u) x))]) (rest := []) (wc := (wT g k L u f0 tl tp)) ⟨hx, hb, hml, hown, hTB⟩ (c_Tree_hasEntries l D g k L hL0 hL u f0 tl tp (ino L (dNow u) x)) (cwV 1 hTB (gd_V k_512 k_514 k_13 k_51 k_515) rfl rfl rfl (by decide +kernel) ⟨Nat.le_of_ble_eq_true rfl, Nat.le_of_ble_eq_true rfl⟩) hK hP [0, 1, 2, 3, 4, 5, 6, 7, 8, 9, 10] rfl 0 rfl rfl rfl hl.1 rfl (Nat.le_of_ble_eq_true rfl) d_Tree_moveFault_63 ⟨Nat.zero_le _, Nat.zero_le _⟩ hS (fun H locs hP hS => ?_)
        refine gz_ifz_eq (tgt := 72) hx hb d_Tree_moveFault_66 (by decide) (fun h66 => ?_) (fun h66 => ?_)
        · refine lv_iload hx hb d_Tree_moveFault_72 (lv_at hl 1 rfl) ?_
          refine gz_if_eq (tgt := 94) hx hb d_Tree_moveFault_74 (by decide) (by decide) (fun h74 => absurd h74 (by decide)) (fun h74 => ?_)
          refine lv_aload_n hx hb d_Tree_moveFault_77 rfl (lv_at hl 2 rfl) ?_
          refine va_get (D := D) (ci := 3) (v := .ref (g 7)) (C := R_Tree) (T := T_Tree) (N := 5) hx hb hTB in_Tree hown hK hP 0 rfl rfl 2 (by decide) (hTB _ k_197) (fun _ h9 => h9) rfl d_Tree_moveFault_78 ?_
          refine lv_iload_n hx hb d_Tree_moveFault_81 rfl (lv_at hl 4 rfl) ?_
          refine lv_iload_n hx hb d_Tree_moveFault_82 rfl (lv_at hl 3 rfl) ?_
          refine gz_muI (As := [.int (nI d), .int (nI i)]) (rest := []) (wc := (wR g k L u f0)) (w1 := (wR g k L u (fil L (dNow u) f0))) (wr := (hT g k tl tp)) ⟨hx, hb, hml, hown, hTB⟩ (c_Dirs_isWithin l D g k L hL0 hL u f0 d (nI i) (by omega)) (cwV 2 hTB (gd_V k_520 k_521 k_522 k_55 k_523) rfl rfl rfl (by decide +kernel) ⟨Nat.le_of_ble_eq_true rfl, Nat.le_of_ble_eq_true rfl⟩) hK hP hD hA [2, 3, 4, 5, 6, 7, 8, 9, 10] [0, 1] rfl rfl (by decide) rfl (by decide) (by decide) 2 rfl rfl rfl hl.1 rfl (Nat.le_of_ble_eq_true rfl) d_Tree_moveFault_83 ⟨Nat.zero_le _, Nat.zero_le _⟩ hS (fun H locs hP hD hS => ?_)
          have hP : va_P D cl5 (wT g k L u (fil L (dNow u) f0) tl tp) H := hP
          have hD : va_D A (wT g k L u (fil L (dNow u) f0) tl tp) := hD
          refine gz_ifz_eq (tgt := 94) hx hb d_Tree_moveFault_86 (by decide) (fun h86 => ?_) (fun h86 => ?_)
          · refine lv_iconst (v := nI 0) hx hb d_Tree_moveFault_94 (by decide +kernel) ?_
            have hP9 : va_P D cl5 (wT g k L u (mvP L (dNow u) f0 i x) tl tp) H := (by rw [show mvP L (dNow u) f0 i x = fil L (dNow u) f0 from by unfold mvP; simp [h9, h21, h46, h66, h86]]; exact hP)
            have hD9 : va_D A (wT g k L u (mvP L (dNow u) f0 i x) tl tp) := (by rw [show mvP L (dNow u) f0 i x = fil L (dNow u) f0 from by unfold mvP; simp [h9, h21, h46, h66, h86]]; exact hD)
            exact W.iret (v := nI 0) hx hb hr (fun tt9 ht9 hW9 => ⟨⟨_, (), rfl, (by unfold mvF; simp [h9, h21, h46, h66, h86]; try rfl), ⟨by rw [ht9]; exact hP9, hD9⟩⟩, hS.F ht9⟩) hS.2.2 d_Tree_moveFault_95
          · refine lv_bipush (v := (-7)) hx hb d_Tree_moveFault_89 (by decide +kernel) ?_
            refine lv_goto (tgt := 95) hx hb d_Tree_moveFault_91 (by decide) ?_
            have hP9 : va_P D cl5 (wT g k L u (mvP L (dNow u) f0 i x) tl tp) H := (by rw [show mvP L (dNow u) f0 i x = fil L (dNow u) f0 from by unfold mvP; simp [h9, h21, h46, h66, h86]]; exact hP)
            have hD9 : va_D A (wT g k L u (mvP L (dNow u) f0 i x) tl tp) := (by rw [show mvP L (dNow u) f0 i x = fil L (dNow u) f0 from by unfold mvP; simp [h9, h21, h46, h66, h86]]; exact hD)
            exact W.iret (v := (-7)) hx hb hr (fun tt9 ht9 hW9 => ⟨⟨_, (), rfl, (by unfold mvF; simp [h9, h21, h46, h66, h86]; try rfl), ⟨by rw [ht9]; exact hP9, hD9⟩⟩, hS.F ht9⟩) hS.2.2 d_Tree_moveFault_95
        · refine lv_bipush (v := (-6)) hx hb d_Tree_moveFault_69 (by decide +kernel) ?_
          have hP9 : va_P D cl5 (wT g k L u (mvP L (dNow u) f0 i x) tl tp) H := (by rw [show mvP L (dNow u) f0 i x = f0 from by unfold mvP; simp [h9, h21, h46, h66]]; exact hP)
          have hD9 : va_D A (wT g k L u (mvP L (dNow u) f0 i x) tl tp) := (by rw [show mvP L (dNow u) f0 i x = f0 from by unfold mvP; simp [h9, h21, h46, h66]]; exact hD)
          exact W.iret (v := (-6)) hx hb hr (fun tt9 ht9 hW9 => ⟨⟨_, (), rfl, (by unfold mvF; simp [h9, h21, h46, h66]; try rfl), ⟨by rw [ht9]; exact hP9, hD9⟩⟩, hS.F ht9⟩) hS.2.2 d_Tree_moveFault_71
theorem d_Tree_commit_0 : decode b_Tree_commit 0 = .ok (.aload_n 0, 1) := by decide +kernel
theorem d_Tree_commit_1 : decode b_Tree_commit 1 = .ok (.getfield 12, 3) := by decide +kernel
theorem d_Tree_commit_4 : decode b_Tree_commit 4 = .ok (.invokevirtual 141, 3) := by decide +kernel
theorem d_Tree_commit_7 : decode b_Tree_commit 7 = .ok (.istore_n 1, 1) := by decide +kernel
theorem d_Tree_commit_8 : decode b_Tree_commit 8 = .ok (.aload_n 0, 1) := by decide +kernel
theorem d_Tree_commit_9 : decode b_Tree_commit 9 = .ok (.getfield 12, 3) := by decide +kernel
theorem d_Tree_commit_12 : decode b_Tree_commit 12 = .ok (.invokevirtual 51, 3) := by decide +kernel
theorem d_Tree_commit_15 : decode b_Tree_commit 15 = .ok (.iload_n 1, 1) := by decide +kernel
theorem d_Tree_commit_16 : decode b_Tree_commit 16 = .ok (.ireturn, 1) := by decide +kernel
set_option maxHeartbeats 4000000 in
set_option maxRecDepth 100000 in
theorem c_Tree_commit (l : Launch) (D : va_G) (g : Nat → Nat) (k : Nat → ClassId) (L : Nat) (hL0 : 96 ≤ L) (hL : L ≤ 768) (u : DSt) (f0 : Nat → Int32) (tl : Nat) (tp : Nat → Int32) : MuI l y_Tree_commit w_Tree_commit ({ frames := 4, cells := 0, slots := 0, locals := 125 }) [.ref (g 9)] D cl5 (tyC k) (wT g k L u f0 tl tp) (wT g k L (cmA L u) f0 tl tp) (nI (dct L (dDif u))) := by
  intro sz
  refine Met.ofW (cc := b_Tree_commit) (maxL := 2) (ret := (some .int)) (by decide) rfl ?_
  intro p e s m args below meth c s₁ B hml hv
  obtain ⟨rfl, hsz, hP, hK, hD0⟩ := hv
  have hx := B.exec
  have hb := B.bytes
  have hr := B.returns
  have hts := atoms_spec (ws := w_Tree_commit) B.pre
  have hTB : ∀ w ∈ lw_tb, w.before _ s = true := fun w h => hts w (List.mem_cons_of_mem _ h)
  have hown : s.vm.findClass R_Tree = some m.cls := findClass_of_methodNamed B.named
  have hlocks := B.notSynchronized
  subst hsz
  have hD := hD0.self (sz := s.heap.size)
  generalize hAe : va_A (wT g k L u f0 tl tp) s.heap.size = A at hD ⊢
  have hA : ∀ q : Nat, s.heap.size ≤ q → A q := fun q h => by rw [← hAe]; exact Or.inr h
  have hS : va_S A s.heap s.heap [] := va_S.rf
  have hl := lv_entry ([.ref (g 9)]) (n := 2) (Nat.le_of_ble_eq_true rfl)
  rw [lg_entry_eq]
  generalize (lg_sl ([.ref (g 9)]) ++ List.replicate (2 - (lg_sl ([.ref (g 9)])).length) Slot.unset).toArray = ls at hl ⊢
  have hl : lv_has ls 2 [(0, .ref (g 9))] := hl
  refine lv_aload_n hx hb d_Tree_commit_0 rfl (lv_at hl 0 rfl) ?_
  refine va_get (D := D) (ci := 3) (v := .ref (g 0)) (C := R_Tree) (T := T_Tree) (N := 5) hx hb hTB in_Tree hown hK hP 0 rfl rfl 0 (by decide) (hTB _ k_195) (fun _ h9 => h9) rfl d_Tree_commit_1 ?_
  refine gz_roV (As := []) (rest := []) (wc := (wD g k L u)) ⟨hx, hb, hml, hown, hTB⟩ (c_Disk_differingBlocks l D g k L hL0 hL u) (cwV 0 hTB (gd_V k_215 k_165 k_166 k_52 k_167) rfl rfl rfl (by decide +kernel) ⟨Nat.le_of_ble_eq_true rfl, Nat.le_of_ble_eq_true rfl⟩) hK hP [5, 6, 7, 8, 9, 10] rfl 5 rfl rfl rfl hl.1 rfl (Nat.le_of_ble_eq_true rfl) d_Tree_commit_4 ⟨Nat.zero_le _, Nat.zero_le _⟩ hS (fun H locs hP hS => ?_)
  have := dcG_le (dDif u) L 0
  have : dct L (dDif u) ≤ L := this
  refine lv_istore_n (lv' := [(1, .int (nI (dct L (dDif u)))), (0, .ref (g 9))]) hx hb d_Tree_commit_7 rfl hl (by decide) rfl (fun ls hl => ?_)
  refine lv_aload_n hx hb d_Tree_commit_8 rfl (lv_at hl 1 rfl) ?_
  refine va_get (D := D) (ci := 3) (v := .ref (g 0)) (C := R_Tree) (T := T_Tree) (N := 5) hx hb hTB in_Tree hown hK hP 0 rfl rfl 0 (by decide) (hTB _ k_195) (fun _ h9 => h9) rfl d_Tree_commit_9 ?_
  refine gz_muV (As := []) (rest := []) (wc := (wD g k L u)) (w1 := (wD g k L (cmA L u))) (wr := (hT g k tl tp ++ (hR g k f0 ++ hI g))) ⟨hx, hb, hml, hown, hTB⟩ (c_Disk_commitAll l D g k L hL0 hL u) (cwV 0 hTB (gd_V k_187 k_188 k_189 k_52 k_190) rfl rfl rfl (by decide +kernel) ⟨Nat.le_of_ble_eq_true rfl, Nat.le_of_ble_eq_true rfl⟩) hK hP hD hA [5, 6, 7, 8, 9, 10] [0, 1, 2, 3, 4] rfl rfl (by decide) rfl (by decide) (by decide) 5 rfl rfl rfl hl.1 rfl (Nat.le_of_ble_eq_true rfl) d_Tree_commit_12 ⟨Nat.zero_le _, Nat.zero_le _⟩ hS (fun H locs hP hD hS => ?_)
  have hP : va_P D cl5 (wT g k L (cmA L u) f0 tl tp) H := hP
  have hD : va_D A (wT g k L (cmA L u) f0 tl tp) := hD
  refine lv_iload_n hx hb d_Tree_commit_15 rfl (lv_at hl 0 rfl) ?_
  have hP9 : va_P D cl5 (wT g k L (cmA L u) f0 tl tp) H := hP
  have hD9 : va_D A (wT g k L (cmA L u) f0 tl tp) := hD
  exact W.iret (v := nI (dct L (dDif u))) hx hb hr (fun tt9 ht9 hW9 => ⟨⟨_, (), rfl, rfl, ⟨by rw [ht9]; exact hP9, hD9⟩⟩, hS.F ht9⟩) hS.2.2 d_Tree_commit_16
theorem d_Tree_drop_0 : decode b_Tree_drop 0 = .ok (.aload_n 0, 1) := by decide +kernel
theorem d_Tree_drop_1 : decode b_Tree_drop 1 = .ok (.getfield 12, 3) := by decide +kernel
theorem d_Tree_drop_4 : decode b_Tree_drop 4 = .ok (.invokevirtual 141, 3) := by decide +kernel
theorem d_Tree_drop_7 : decode b_Tree_drop 7 = .ok (.istore_n 1, 1) := by decide +kernel
theorem d_Tree_drop_8 : decode b_Tree_drop 8 = .ok (.aload_n 0, 1) := by decide +kernel
theorem d_Tree_drop_9 : decode b_Tree_drop 9 = .ok (.getfield 12, 3) := by decide +kernel
theorem d_Tree_drop_12 : decode b_Tree_drop 12 = .ok (.invokevirtual 144, 3) := by decide +kernel
theorem d_Tree_drop_15 : decode b_Tree_drop 15 = .ok (.iload_n 1, 1) := by decide +kernel
theorem d_Tree_drop_16 : decode b_Tree_drop 16 = .ok (.ireturn, 1) := by decide +kernel
set_option maxHeartbeats 4000000 in
set_option maxRecDepth 100000 in
theorem c_Tree_drop (l : Launch) (D : va_G) (g : Nat → Nat) (k : Nat → ClassId) (L : Nat) (hL0 : 96 ≤ L) (hL : L ≤ 768) (u : DSt) (f0 : Nat → Int32) (tl : Nat) (tp : Nat → Int32) : MuI l y_Tree_drop w_Tree_drop ({ frames := 4, cells := 0, slots := 0, locals := 125 }) [.ref (g 9)] D cl5 (tyC k) (wT g k L u f0 tl tp) (wT g k L (drA L u) f0 tl tp) (nI (dct L (dDif u))) := by
  intro sz
  refine Met.ofW (cc := b_Tree_drop) (maxL := 2) (ret := (some .int)) (by decide) rfl ?_
  intro p e s m args below meth c s₁ B hml hv
  obtain ⟨rfl, hsz, hP, hK, hD0⟩ := hv
  have hx := B.exec
  have hb := B.bytes
  have hr := B.returns
  have hts := atoms_spec (ws := w_Tree_drop) B.pre
  have hTB : ∀ w ∈ lw_tb, w.before _ s = true := fun w h => hts w (List.mem_cons_of_mem _ h)
  have hown : s.vm.findClass R_Tree = some m.cls := findClass_of_methodNamed B.named
  have hlocks := B.notSynchronized
  subst hsz
  have hD := hD0.self (sz := s.heap.size)
  generalize hAe : va_A (wT g k L u f0 tl tp) s.heap.size = A at hD ⊢
  have hA : ∀ q : Nat, s.heap.size ≤ q → A q := fun q h => by rw [← hAe]; exact Or.inr h
  have hS : va_S A s.heap s.heap [] := va_S.rf
  have hl := lv_entry ([.ref (g 9)]) (n := 2) (Nat.le_of_ble_eq_true rfl)
  rw [lg_entry_eq]
  generalize (lg_sl ([.ref (g 9)]) ++ List.replicate (2 - (lg_sl ([.ref (g 9)])).length) Slot.unset).toArray = ls at hl ⊢
  have hl : lv_has ls 2 [(0, .ref (g 9))] := hl
  refine lv_aload_n hx hb d_Tree_drop_0 rfl (lv_at hl 0 rfl) ?_
  refine va_get (D := D) (ci := 3) (v := .ref (g 0)) (C := R_Tree) (T := T_Tree) (N := 5) hx hb hTB in_Tree hown hK hP 0 rfl rfl 0 (by decide) (hTB _ k_195) (fun _ h9 => h9) rfl d_Tree_drop_1 ?_
  refine gz_roV (As := []) (rest := []) (wc := (wD g k L u)) ⟨hx, hb, hml, hown, hTB⟩ (c_Disk_differingBlocks l D g k L hL0 hL u) (cwV 0 hTB (gd_V k_215 k_165 k_166 k_52 k_167) rfl rfl rfl (by decide +kernel) ⟨Nat.le_of_ble_eq_true rfl, Nat.le_of_ble_eq_true rfl⟩) hK hP [5, 6, 7, 8, 9, 10] rfl 5 rfl rfl rfl hl.1 rfl (Nat.le_of_ble_eq_true rfl) d_Tree_drop_4 ⟨Nat.zero_le _, Nat.zero_le _⟩ hS (fun H locs hP hS => ?_)
  have := dcG_le (dDif u) L 0
  have : dct L (dDif u) ≤ L := this
  refine lv_istore_n (lv' := [(1, .int (nI (dct L (dDif u)))), (0, .ref (g 9))]) hx hb d_Tree_drop_7 rfl hl (by decide) rfl (fun ls hl => ?_)
  refine lv_aload_n hx hb d_Tree_drop_8 rfl (lv_at hl 1 rfl) ?_
  refine va_get (D := D) (ci := 3) (v := .ref (g 0)) (C := R_Tree) (T := T_Tree) (N := 5) hx hb hTB in_Tree hown hK hP 0 rfl rfl 0 (by decide) (hTB _ k_195) (fun _ h9 => h9) rfl d_Tree_drop_9 ?_
  refine gz_muV (As := []) (rest := []) (wc := (wD g k L u)) (w1 := (wD g k L (drA L u))) (wr := (hT g k tl tp ++ (hR g k f0 ++ hI g))) ⟨hx, hb, hml, hown, hTB⟩ (c_Disk_dropAll l D g k L hL0 hL u) (cwV 0 hTB (gd_V k_220 k_221 k_222 k_52 k_223) rfl rfl rfl (by decide +kernel) ⟨Nat.le_of_ble_eq_true rfl, Nat.le_of_ble_eq_true rfl⟩) hK hP hD hA [5, 6, 7, 8, 9, 10] [0, 1, 2, 3, 4] rfl rfl (by decide) rfl (by decide) (by decide) 5 rfl rfl rfl hl.1 rfl (Nat.le_of_ble_eq_true rfl) d_Tree_drop_12 ⟨Nat.zero_le _, Nat.zero_le _⟩ hS (fun H locs hP hD hS => ?_)
  have hP : va_P D cl5 (wT g k L (drA L u) f0 tl tp) H := hP
  have hD : va_D A (wT g k L (drA L u) f0 tl tp) := hD
  refine lv_iload_n hx hb d_Tree_drop_15 rfl (lv_at hl 0 rfl) ?_
  have hP9 : va_P D cl5 (wT g k L (drA L u) f0 tl tp) H := hP
  have hD9 : va_D A (wT g k L (drA L u) f0 tl tp) := hD
  exact W.iret (v := nI (dct L (dDif u))) hx hb hr (fun tt9 ht9 hW9 => ⟨⟨_, (), rfl, rfl, ⟨by rw [ht9]; exact hP9, hD9⟩⟩, hS.F ht9⟩) hS.2.2 d_Tree_drop_16
end
section
theorem d_Tree_feed_0 : decode b_Tree_feed 0 = .ok (.iload_n 1, 1) := by decide +kernel
theorem d_Tree_feed_1 : decode b_Tree_feed 1 = .ok (.iconst 1, 1) := by decide +kernel
theorem d_Tree_feed_2 : decode b_Tree_feed 2 = .ok (.if_icmp .lt 9, 3) := by decide +kernel
theorem d_Tree_feed_5 : decode b_Tree_feed 5 = .ok (.iload_n 1, 1) := by decide +kernel
theorem d_Tree_feed_6 : decode b_Tree_feed 6 = .ok (.bipush 8, 2) := by decide +kernel
theorem d_Tree_feed_8 : decode b_Tree_feed 8 = .ok (.if_icmp .le 13, 3) := by decide +kernel
theorem d_Tree_feed_11 : decode b_Tree_feed 11 = .ok (.new 54, 3) := by decide +kernel
theorem d_Tree_feed_14 : decode b_Tree_feed 14 = .ok (.dup, 1) := by decide +kernel
theorem d_Tree_feed_15 : decode b_Tree_feed 15 = .ok (.ldc 56, 2) := by decide +kernel
theorem d_Tree_feed_17 : decode b_Tree_feed 17 = .ok (.invokespecial 58, 3) := by decide +kernel
theorem d_Tree_feed_20 : decode b_Tree_feed 20 = .ok (.athrow, 1) := by decide +kernel
theorem d_Tree_feed_21 : decode b_Tree_feed 21 = .ok (.aload_n 0, 1) := by decide +kernel
theorem d_Tree_feed_22 : decode b_Tree_feed 22 = .ok (.getfield 40, 3) := by decide +kernel
theorem d_Tree_feed_25 : decode b_Tree_feed 25 = .ok (.iload_n 1, 1) := by decide +kernel
theorem d_Tree_feed_26 : decode b_Tree_feed 26 = .ok (.iadd, 1) := by decide +kernel
theorem d_Tree_feed_27 : decode b_Tree_feed 27 = .ok (.sipush 512, 3) := by decide +kernel
theorem d_Tree_feed_30 : decode b_Tree_feed 30 = .ok (.if_icmp .le 13, 3) := by decide +kernel
theorem d_Tree_feed_33 : decode b_Tree_feed 33 = .ok (.new 61, 3) := by decide +kernel
theorem d_Tree_feed_36 : decode b_Tree_feed 36 = .ok (.dup, 1) := by decide +kernel
theorem d_Tree_feed_37 : decode b_Tree_feed 37 = .ok (.ldc 63, 2) := by decide +kernel
theorem d_Tree_feed_39 : decode b_Tree_feed 39 = .ok (.invokespecial 65, 3) := by decide +kernel
theorem d_Tree_feed_42 : decode b_Tree_feed 42 = .ok (.athrow, 1) := by decide +kernel
theorem d_Tree_feed_43 : decode b_Tree_feed 43 = .ok (.iconst 0, 1) := by decide +kernel
theorem d_Tree_feed_44 : decode b_Tree_feed 44 = .ok (.istore 4, 2) := by decide +kernel
theorem d_Tree_feed_46 : decode b_Tree_feed 46 = .ok (.iload 4, 2) := by decide +kernel
theorem d_Tree_feed_48 : decode b_Tree_feed 48 = .ok (.iload_n 1, 1) := by decide +kernel
theorem d_Tree_feed_49 : decode b_Tree_feed 49 = .ok (.if_icmp .ge 33, 3) := by decide +kernel
theorem d_Tree_feed_52 : decode b_Tree_feed 52 = .ok (.aload_n 0, 1) := by decide +kernel
theorem d_Tree_feed_53 : decode b_Tree_feed 53 = .ok (.getfield 36, 3) := by decide +kernel
theorem d_Tree_feed_56 : decode b_Tree_feed 56 = .ok (.aload_n 0, 1) := by decide +kernel
theorem d_Tree_feed_57 : decode b_Tree_feed 57 = .ok (.getfield 40, 3) := by decide +kernel
theorem d_Tree_feed_60 : decode b_Tree_feed 60 = .ok (.iload 4, 2) := by decide +kernel
theorem d_Tree_feed_62 : decode b_Tree_feed 62 = .ok (.iadd, 1) := by decide +kernel
theorem d_Tree_feed_63 : decode b_Tree_feed 63 = .ok (.lload_n 2, 1) := by decide +kernel
theorem d_Tree_feed_64 : decode b_Tree_feed 64 = .ok (.bipush 8, 2) := by decide +kernel
theorem d_Tree_feed_66 : decode b_Tree_feed 66 = .ok (.iload 4, 2) := by decide +kernel
theorem d_Tree_feed_68 : decode b_Tree_feed 68 = .ok (.imul, 1) := by decide +kernel
theorem d_Tree_feed_69 : decode b_Tree_feed 69 = .ok (.lushr, 1) := by decide +kernel
theorem d_Tree_feed_70 : decode b_Tree_feed 70 = .ok (.l2i, 1) := by decide +kernel
theorem d_Tree_feed_71 : decode b_Tree_feed 71 = .ok (.sipush 255, 3) := by decide +kernel
theorem d_Tree_feed_74 : decode b_Tree_feed 74 = .ok (.iand, 1) := by decide +kernel
theorem d_Tree_feed_75 : decode b_Tree_feed 75 = .ok (.iastore, 1) := by decide +kernel
theorem d_Tree_feed_76 : decode b_Tree_feed 76 = .ok (.iinc 4 1, 3) := by decide +kernel
theorem d_Tree_feed_79 : decode b_Tree_feed 79 = .ok (.goto (-33), 3) := by decide +kernel
theorem d_Tree_feed_82 : decode b_Tree_feed 82 = .ok (.aload_n 0, 1) := by decide +kernel
theorem d_Tree_feed_83 : decode b_Tree_feed 83 = .ok (.dup, 1) := by decide +kernel
theorem d_Tree_feed_84 : decode b_Tree_feed 84 = .ok (.getfield 40, 3) := by decide +kernel
theorem d_Tree_feed_87 : decode b_Tree_feed 87 = .ok (.iload_n 1, 1) := by decide +kernel
theorem d_Tree_feed_88 : decode b_Tree_feed 88 = .ok (.iadd, 1) := by decide +kernel
theorem d_Tree_feed_89 : decode b_Tree_feed 89 = .ok (.putfield 40, 3) := by decide +kernel
theorem d_Tree_feed_92 : decode b_Tree_feed 92 = .ok (.aload_n 0, 1) := by decide +kernel
theorem d_Tree_feed_93 : decode b_Tree_feed 93 = .ok (.getfield 40, 3) := by decide +kernel
theorem d_Tree_feed_96 : decode b_Tree_feed 96 = .ok (.ireturn, 1) := by decide +kernel
set_option maxHeartbeats 4000000 in
set_option maxRecDepth 100000 in
theorem c_Tree_feed (l : Launch) (D : va_G) (g : Nat → Nat) (k : Nat → ClassId) (L : Nat) (hL0 : 96 ≤ L) (hL : L ≤ 768) (u : DSt) (f0 : Nat → Int32) (tl : Nat) (tp : Nat → Int32) (n : Nat) (v : Int64) (hn1 : 1 ≤ n) (hn2 : n ≤ 8) (ht0 : tl + n ≤ 512) : MuI l y_Tree_feed w_Tree_feed ({ frames := 7, cells := 0, slots := 0, locals := 110 }) [.ref (g 9), .int (nI n), .long (v)] D cl5 (tyC k) (wT g k L u f0 tl tp) (wT g k L u f0 (tl + n) (fdT tp tl v n)) (nI (tl + n)) := by
  intro sz
  refine Met.ofW (cc := b_Tree_feed) (maxL := 5) (ret := (some .int)) (by decide) rfl ?_
  intro p e s m args below meth c s₁ B hml hv
  obtain ⟨rfl, hsz, hP, hK, hD0⟩ := hv
  have hx := B.exec
  have hb := B.bytes
  have hr := B.returns
  have hts := atoms_spec (ws := w_Tree_feed) B.pre
  have hTB : ∀ w ∈ lw_tb, w.before _ s = true := fun w h => hts w (List.mem_cons_of_mem _ h)
  have hown : s.vm.findClass R_Tree = some m.cls := findClass_of_methodNamed B.named
  have hlocks := B.notSynchronized
  subst hsz
  have hD := hD0.self (sz := s.heap.size)
  generalize hAe : va_A (wT g k L u f0 tl tp) s.heap.size = A at hD ⊢
  have hA : ∀ q : Nat, s.heap.size ≤ q → A q := fun q h => by rw [← hAe]; exact Or.inr h
  have hS : va_S A s.heap s.heap [] := va_S.rf
  have hl := lv_entry ([.ref (g 9), .int (nI n), .long (v)]) (n := 5) (Nat.le_of_ble_eq_true rfl)
  rw [lg_entry_eq]
  generalize (lg_sl ([.ref (g 9), .int (nI n), .long (v)]) ++ List.replicate (5 - (lg_sl ([.ref (g 9), .int (nI n), .long (v)])).length) Slot.unset).toArray = ls at hl ⊢
  have hl : lv_has ls 5 [(0, .ref (g 9)), (1, .int (nI n)), (2, .long (v))] := hl
  refine lv_iload_n hx hb d_Tree_feed_0 rfl (lv_at hl 1 rfl) ?_
  refine lv_iconst (v := nI 1) hx hb d_Tree_feed_1 (by decide +kernel) ?_
  refine gz_icmp_lt (tgt := 11) hx hb d_Tree_feed_2 (by decide) (by omega) (by omega) (fun h2 => ?_) (fun h2 => ?_)
  · exact absurd h2 (by omega)
  · refine lv_iload_n hx hb d_Tree_feed_5 rfl (lv_at hl 1 rfl) ?_
    refine lv_bipush (v := nI 8) hx hb d_Tree_feed_6 (by decide +kernel) ?_
    refine gz_icmp_le (tgt := 21) hx hb d_Tree_feed_8 (by decide) (by omega) (by omega) (fun h8 => ?_) (fun h8 => ?_)
    · refine lv_aload_n hx hb d_Tree_feed_21 rfl (lv_at hl 0 rfl) ?_
      refine va_get (D := D) (ci := 3) (v := .int (nI tl)) (C := R_Tree) (T := T_Tree) (N := 5) hx hb hTB in_Tree hown hK hP 0 rfl rfl 4 (by decide) (hTB _ k_199) (fun _ h9 => h9) rfl d_Tree_feed_22 ?_
      refine lv_iload_n hx hb d_Tree_feed_25 rfl (lv_at hl 1 rfl) ?_
      refine gz_iadd hx hb d_Tree_feed_26 ?_
      refine lv_sipush (v := nI 512) hx hb d_Tree_feed_27 (by decide +kernel) ?_
      refine gz_icmp_le (tgt := 43) hx hb d_Tree_feed_30 (by decide) (by omega) (by omega) (fun h30 => ?_) (fun h30 => ?_)
      · refine lv_iconst (v := nI 0) hx hb d_Tree_feed_43 (by decide +kernel) ?_
        refine lv_istore (lv' := [(4, .int (nI 0)), (0, .ref (g 9)), (1, .int (nI n)), (2, .long (v))]) hx hb d_Tree_feed_44 hl (by decide) rfl (fun ls hl => ?_)
        refine gz_loop 46 (fun (zz : Nat) H locs ls => match zz with | i => va_P D cl5 (wT g k L u f0 tl (fdT tp tl v i)) H ∧ va_D A (wT g k L u f0 tl (fdT tp tl v i)) ∧ va_S A s.heap H locs ∧ lv_has ls 5 [(0, .ref (g 9)), (1, .int (nI n)), (2, .long (v)), (4, .int (nI i))] ∧ (i ≤ n)) (fun (zz : Nat) => match zz with | i => n - i) (fun zz H locs ls hI ih46 => ?_) (0) ⟨hP, hD, hS, lv_sub hl [1, 2, 3, 0] rfl, (by omega)⟩
        obtain ⟨i, rfl⟩ : ∃ z, z = zz := ⟨_, rfl⟩
        obtain ⟨hP, hD, hS, hl, hi1⟩ := hI
        refine lv_iload hx hb d_Tree_feed_46 (lv_at hl 3 rfl) ?_
        refine lv_iload_n hx hb d_Tree_feed_48 rfl (lv_at hl 1 rfl) ?_
        refine gz_icmp_ge (tgt := 82) hx hb d_Tree_feed_49 (by decide) (by omega) (by omega) (fun h49 => ?_) (fun h49 => ?_)
        · have hin : i = n := by omega
          refine lv_aload_n hx hb d_Tree_feed_82 rfl (lv_at hl 0 rfl) ?_
          refine lv_dup hx hb d_Tree_feed_83 rfl ?_
          refine va_get (D := D) (ci := 3) (v := .int (nI tl)) (C := R_Tree) (T := T_Tree) (N := 5) hx hb hTB in_Tree hown hK hP 0 rfl rfl 4 (by decide) (hTB _ k_199) (fun _ h9 => h9) rfl d_Tree_feed_84 ?_
          refine lv_iload_n hx hb d_Tree_feed_87 rfl (lv_at hl 1 rfl) ?_
          refine gz_iadd hx hb d_Tree_feed_88 ?_
          refine va_put (D := D) (ci := 3) (v := .int (nI (tl + n))) (ty := .int) (C := R_Tree) (T := T_Tree) (N := 5) hx hb hTB in_Tree t_Tree t_Tree_ok n_Tree hown hK hP hD hS 0 rfl rfl 4 (by decide) (hTB _ k_199) (fun _ h9 => h9) rfl (by decide +kernel) rfl rfl (Nat.le_of_ble_eq_true rfl) d_Tree_feed_89 (fun H locs hP hD hS => ?_)
          have hP : va_P D cl5 (wT g k L u f0 (tl + n) (fdT tp tl v i)) H := hP
          have hD : va_D A (wT g k L u f0 (tl + n) (fdT tp tl v i)) := hD
          refine lv_aload_n hx hb d_Tree_feed_92 rfl (lv_at hl 0 rfl) ?_
          refine va_get (D := D) (ci := 3) (v := .int (nI (tl + n))) (C := R_Tree) (T := T_Tree) (N := 5) hx hb hTB in_Tree hown hK hP 0 rfl rfl 4 (by decide) (hTB _ k_199) (fun _ h9 => h9) rfl d_Tree_feed_93 ?_
          have hP9 : va_P D cl5 (wT g k L u f0 (tl + n) (fdT tp tl v n)) H := (by subst hin; exact hP)
          have hD9 : va_D A (wT g k L u f0 (tl + n) (fdT tp tl v n)) := (by subst hin; exact hD)
          exact W.iret (v := nI (tl + n)) hx hb hr (fun tt9 ht9 hW9 => ⟨⟨_, (), rfl, rfl, ⟨by rw [ht9]; exact hP9, hD9⟩⟩, hS.F ht9⟩) hS.2.2 d_Tree_feed_96
        · refine lv_aload_n hx hb d_Tree_feed_52 rfl (lv_at hl 0 rfl) ?_
          refine va_get (D := D) (ci := 3) (v := .ref (g 10)) (C := R_Tree) (T := T_Tree) (N := 5) hx hb hTB in_Tree hown hK hP 0 rfl rfl 3 (by decide) (hTB _ k_198) (fun _ h9 => h9) rfl d_Tree_feed_53 ?_
          refine lv_aload_n hx hb d_Tree_feed_56 rfl (lv_at hl 0 rfl) ?_
          refine va_get (D := D) (ci := 3) (v := .int (nI tl)) (C := R_Tree) (T := T_Tree) (N := 5) hx hb hTB in_Tree hown hK hP 0 rfl rfl 4 (by decide) (hTB _ k_199) (fun _ h9 => h9) rfl d_Tree_feed_57 ?_
          refine lv_iload hx hb d_Tree_feed_60 (lv_at hl 3 rfl) ?_
          refine gz_iadd hx hb d_Tree_feed_62 ?_
          refine lv_lload_n hx hb d_Tree_feed_63 rfl (lv_at hl 2 rfl) ?_
          refine lv_bipush (v := nI 8) hx hb d_Tree_feed_64 (by decide +kernel) ?_
          refine lv_iload hx hb d_Tree_feed_66 (lv_at hl 3 rfl) ?_
          refine gz_imul hx hb d_Tree_feed_68 ?_
          refine lv_lushr hx hb d_Tree_feed_69 rfl ?_
          refine lv_l2i hx hb d_Tree_feed_70 rfl ?_
          refine lv_sipush (v := nI 255) hx hb d_Tree_feed_71 (by decide +kernel) ?_
          refine lv_iand hx hb d_Tree_feed_74 ?_
          refine gz_iast hx hb hK hP hD hS 1 2 rfl rfl (i := tl + i) (by omega) (by omega) d_Tree_feed_75 (fun H locs hP hD hS => ?_)
          have hP : va_P D cl5 (wT g k L u f0 tl (va_up (fdT tp tl v i) (tl + i) ((((v.toUInt64 >>> ((nI (8 * i)).toInt64.toUInt64 &&& Int64.toUInt64 63)).toInt64).toInt32) &&& (nI 255)))) H := hP
          have hD : va_D A (wT g k L u f0 tl (va_up (fdT tp tl v i) (tl + i) ((((v.toUInt64 >>> ((nI (8 * i)).toInt64.toUInt64 &&& Int64.toUInt64 63)).toInt64).toInt32) &&& (nI 255)))) := hD
          refine lv_iinc (v := nI (i + 1)) (lv' := [(4, .int (nI (i + 1))), (0, .ref (g 9)), (1, .int (nI n)), (2, .long (v))]) hx hb d_Tree_feed_76 hl (k := 3) rfl (nI_add i 1) (by decide) rfl (fun ls hl => ?_)
          refine lv_goto (tgt := 46) hx hb d_Tree_feed_79 (by decide) ?_
          exact ih46 (i + 1) _ _ _ (by first | omega | (dsimp only; omega)) ⟨hP, hD, hS, lv_sub hl [1, 2, 3, 0] rfl, (by omega)⟩
      · exact absurd h30 (by omega)
    · exact absurd h8 (by omega)
theorem d_Tree_find_0 : decode b_Tree_find 0 = .ok (.iload_n 1, 1) := by decide +kernel
theorem d_Tree_find_1 : decode b_Tree_find 1 = .ok (.invokestatic 66, 3) := by decide +kernel
theorem d_Tree_find_4 : decode b_Tree_find 4 = .ok (.iload_n 2, 1) := by decide +kernel
theorem d_Tree_find_5 : decode b_Tree_find 5 = .ok (.invokestatic 69, 3) := by decide +kernel
theorem d_Tree_find_8 : decode b_Tree_find 8 = .ok (.aload_n 0, 1) := by decide +kernel
theorem d_Tree_find_9 : decode b_Tree_find 9 = .ok (.iload_n 1, 1) := by decide +kernel
theorem d_Tree_find_10 : decode b_Tree_find 10 = .ok (.iload_n 2, 1) := by decide +kernel
theorem d_Tree_find_11 : decode b_Tree_find 11 = .ok (.invokevirtual 90, 3) := by decide +kernel
theorem d_Tree_find_14 : decode b_Tree_find 14 = .ok (.istore_n 3, 1) := by decide +kernel
theorem d_Tree_find_15 : decode b_Tree_find 15 = .ok (.iload_n 3, 1) := by decide +kernel
theorem d_Tree_find_16 : decode b_Tree_find 16 = .ok (.ifCond .ge 7, 3) := by decide +kernel
theorem d_Tree_find_19 : decode b_Tree_find 19 = .ok (.iload_n 3, 1) := by decide +kernel
theorem d_Tree_find_20 : decode b_Tree_find 20 = .ok (.goto 11, 3) := by decide +kernel
theorem d_Tree_find_23 : decode b_Tree_find 23 = .ok (.aload_n 0, 1) := by decide +kernel
theorem d_Tree_find_24 : decode b_Tree_find 24 = .ok (.getfield 32, 3) := by decide +kernel
theorem d_Tree_find_27 : decode b_Tree_find 27 = .ok (.iload_n 3, 1) := by decide +kernel
theorem d_Tree_find_28 : decode b_Tree_find 28 = .ok (.invokevirtual 93, 3) := by decide +kernel
theorem d_Tree_find_31 : decode b_Tree_find 31 = .ok (.ireturn, 1) := by decide +kernel
set_option maxHeartbeats 4000000 in
set_option maxRecDepth 100000 in
theorem c_Tree_find (l : Launch) (D : va_G) (g : Nat → Nat) (k : Nat → ClassId) (L : Nat) (hL0 : 96 ≤ L) (hL : L ≤ 768) (u : DSt) (f0 : Nat → Int32) (tl : Nat) (tp : Nat → Int32) (d w : Nat) (hd0 : d < 64) (hw1 : 1 ≤ w) (hw2 : w ≤ 65535) : RoI l y_Tree_find w_Tree_find ({ frames := 8, cells := 0, slots := 0, locals := 139 }) [.ref (g 9), .int (nI d), .int (nI w)] (RoP D cl5 (tyC k) (wT g k L u f0 tl tp)) (fdC L (dNow u) d w) := by
  refine Met.ofW (cc := b_Tree_find) (maxL := 4) (ret := (some .int)) (by decide) rfl ?_
  intro p e s m args below meth c s₁ B hml hv
  obtain ⟨rfl, hP, hK⟩ := hv
  have hx := B.exec
  have hb := B.bytes
  have hr := B.returns
  have hts := atoms_spec (ws := w_Tree_find) B.pre
  have hTB : ∀ w ∈ lw_tb, w.before _ s = true := fun w h => hts w (List.mem_cons_of_mem _ h)
  have hown : s.vm.findClass R_Tree = some m.cls := findClass_of_methodNamed B.named
  have hlocks := B.notSynchronized
  have hS : va_S (fun _ => False) s.heap s.heap [] := va_S.rf
  have hl := lv_entry ([.ref (g 9), .int (nI d), .int (nI w)]) (n := 4) (Nat.le_of_ble_eq_true rfl)
  rw [lg_entry_eq]
  generalize (lg_sl ([.ref (g 9), .int (nI d), .int (nI w)]) ++ List.replicate (4 - (lg_sl ([.ref (g 9), .int (nI d), .int (nI w)])).length) Slot.unset).toArray = ls at hl ⊢
  have hl : lv_has ls 4 [(0, .ref (g 9)), (1, .int (nI d)), (2, .int (nI w))] := hl
  refine lv_iload_n hx hb d_Tree_find_0 rfl (lv_at hl 1 rfl) ?_
  refine gz_roSv (As := [.int (nI d)]) (rest := []) ⟨hx, hb, hml, hown, hTB⟩ (c_Tree_checkInode l d (by omega)) (cwS 1 hTB (gd_S k_327 k_328 k_51 k_329) rfl rfl rfl (by decide +kernel) ⟨Nat.le_of_ble_eq_true rfl, Nat.le_of_ble_eq_true rfl⟩) hP rfl hl.1 rfl (Nat.le_of_ble_eq_true rfl) d_Tree_find_1 ⟨Nat.zero_le _, Nat.zero_le _⟩ hS (fun H locs hP hS => ?_)
  refine lv_iload_n hx hb d_Tree_find_4 rfl (lv_at hl 2 rfl) ?_
  refine gz_roSv (As := [.int (nI w)]) (rest := []) ⟨hx, hb, hml, hown, hTB⟩ (c_Tree_checkName l w (by omega) (by omega)) (cwS 1 hTB (gd_S k_331 k_332 k_51 k_333) rfl rfl rfl (by decide +kernel) ⟨Nat.le_of_ble_eq_true rfl, Nat.le_of_ble_eq_true rfl⟩) hP rfl hl.1 rfl (Nat.le_of_ble_eq_true rfl) d_Tree_find_5 ⟨Nat.zero_le _, Nat.zero_le _⟩ hS (fun H locs hP hS => ?_)
  refine lv_aload_n hx hb d_Tree_find_8 rfl (lv_at hl 0 rfl) ?_
  refine lv_iload_n hx hb d_Tree_find_9 rfl (lv_at hl 1 rfl) ?_
  refine lv_iload_n hx hb d_Tree_find_10 rfl (lv_at hl 2 rfl) ?_
  refine gz_roV (As := [.int (nI d), .int (nI w)]) (rest := []) (wc := (wT g k L u f0 tl tp)) ⟨hx, hb, hml, hown, hTB⟩ (c_Tree_entryOrFault l D g k L hL0 hL u f0 tl tp d w (by omega)) (cwV 2 hTB (gd_V k_446 k_448 k_11 k_51 k_449) rfl rfl rfl (by decide +kernel) ⟨Nat.le_of_ble_eq_true rfl, Nat.le_of_ble_eq_true rfl⟩) hK hP [0, 1, 2, 3, 4, 5, 6, 7, 8, 9, 10] rfl 0 rfl rfl rfl hl.1 rfl (Nat.le_of_ble_eq_true rfl) d_Tree_find_11 ⟨Nat.zero_le _, Nat.zero_le _⟩ hS (fun H locs hP hS => ?_)
  refine lv_istore_n (lv' := [(3, .int (eof L (dNow u) d w)), (0, .ref (g 9)), (1, .int (nI d)), (2, .int (nI w))]) hx hb d_Tree_find_14 rfl hl (by decide) rfl (fun ls hl => ?_)
  refine lv_iload_n hx hb d_Tree_find_15 rfl (lv_at hl 0 rfl) ?_
  refine lv_if_ge (tgt := 23) hx hb d_Tree_find_16 (by decide) (fun h16 => ?_) (fun h16 => ?_)
  · refine lv_aload_n hx hb d_Tree_find_23 rfl (lv_at hl 1 rfl) ?_
    refine va_get (D := D) (ci := 3) (v := .ref (g 7)) (C := R_Tree) (T := T_Tree) (N := 5) hx hb hTB in_Tree hown hK hP 0 rfl rfl 2 (by decide) (hTB _ k_197) (fun _ h9 => h9) rfl d_Tree_find_24 ?_
    refine lv_iload_n hx hb d_Tree_find_27 rfl (lv_at hl 0 rfl) ?_
    refine gz_roV (As := [.int (eof L (dNow u) d w)]) (rest := []) (wc := (wR g k L u f0)) ⟨hx, hb, hml, hown, hTB⟩ (c_Dirs_inodeOf l D g k L hL0 hL u f0 (eof L (dNow u) d w)) (cwV 1 hTB (gd_V k_450 k_451 k_452 k_55 k_453) rfl rfl rfl (by decide +kernel) ⟨Nat.le_of_ble_eq_true rfl, Nat.le_of_ble_eq_true rfl⟩) hK hP [2, 3, 4, 5, 6, 7, 8, 9, 10] rfl 2 rfl rfl rfl hl.1 rfl (Nat.le_of_ble_eq_true rfl) d_Tree_find_28 ⟨Nat.zero_le _, Nat.zero_le _⟩ hS (fun H locs hP hS => ?_)
    have := ino_lt L (dNow u) (eof L (dNow u) d w)
    exact W.iret (v := nI (ino L (dNow u) (eof L (dNow u) d w))) hx hb hr (fun tt9 ht9 hW9 => ⟨⟨_, (), rfl, (by unfold fdC; rw [if_pos h16]), trivial⟩, hS.F ht9⟩) hS.2.2 d_Tree_find_31
  · refine lv_iload_n hx hb d_Tree_find_19 rfl (lv_at hl 0 rfl) ?_
    refine lv_goto (tgt := 31) hx hb d_Tree_find_20 (by decide) ?_
    exact W.iret (v := eof L (dNow u) d w) hx hb hr (fun tt9 ht9 hW9 => ⟨⟨_, (), rfl, (by unfold fdC; rw [if_neg h16]), trivial⟩, hS.F ht9⟩) hS.2.2 d_Tree_find_31
theorem d_Tree_make_0 : decode b_Tree_make 0 = .ok (.iload_n 1, 1) := by decide +kernel
theorem d_Tree_make_1 : decode b_Tree_make 1 = .ok (.invokestatic 66, 3) := by decide +kernel
theorem d_Tree_make_4 : decode b_Tree_make 4 = .ok (.iload_n 2, 1) := by decide +kernel
theorem d_Tree_make_5 : decode b_Tree_make 5 = .ok (.invokestatic 69, 3) := by decide +kernel
theorem d_Tree_make_8 : decode b_Tree_make 8 = .ok (.aload_n 0, 1) := by decide +kernel
theorem d_Tree_make_9 : decode b_Tree_make 9 = .ok (.iload_n 1, 1) := by decide +kernel
theorem d_Tree_make_10 : decode b_Tree_make 10 = .ok (.iconst 2, 1) := by decide +kernel
theorem d_Tree_make_11 : decode b_Tree_make 11 = .ok (.invokevirtual 72, 3) := by decide +kernel
theorem d_Tree_make_14 : decode b_Tree_make 14 = .ok (.istore 4, 2) := by decide +kernel
theorem d_Tree_make_16 : decode b_Tree_make 16 = .ok (.iload 4, 2) := by decide +kernel
theorem d_Tree_make_18 : decode b_Tree_make 18 = .ok (.ifCond .ge 6, 3) := by decide +kernel
theorem d_Tree_make_21 : decode b_Tree_make 21 = .ok (.iload 4, 2) := by decide +kernel
theorem d_Tree_make_23 : decode b_Tree_make 23 = .ok (.ireturn, 1) := by decide +kernel
theorem d_Tree_make_24 : decode b_Tree_make 24 = .ok (.aload_n 0, 1) := by decide +kernel
theorem d_Tree_make_25 : decode b_Tree_make 25 = .ok (.getfield 32, 3) := by decide +kernel
theorem d_Tree_make_28 : decode b_Tree_make 28 = .ok (.iload_n 1, 1) := by decide +kernel
theorem d_Tree_make_29 : decode b_Tree_make 29 = .ok (.iload_n 2, 1) := by decide +kernel
theorem d_Tree_make_30 : decode b_Tree_make 30 = .ok (.invokevirtual 76, 3) := by decide +kernel
theorem d_Tree_make_33 : decode b_Tree_make 33 = .ok (.iconst (-1), 1) := by decide +kernel
theorem d_Tree_make_34 : decode b_Tree_make 34 = .ok (.if_icmp .eq 6, 3) := by decide +kernel
theorem d_Tree_make_37 : decode b_Tree_make 37 = .ok (.bipush (-2), 2) := by decide +kernel
theorem d_Tree_make_39 : decode b_Tree_make 39 = .ok (.ireturn, 1) := by decide +kernel
theorem d_Tree_make_40 : decode b_Tree_make 40 = .ok (.aload_n 0, 1) := by decide +kernel
theorem d_Tree_make_41 : decode b_Tree_make 41 = .ok (.getfield 23, 3) := by decide +kernel
theorem d_Tree_make_44 : decode b_Tree_make 44 = .ok (.invokevirtual 79, 3) := by decide +kernel
theorem d_Tree_make_47 : decode b_Tree_make 47 = .ok (.istore 5, 2) := by decide +kernel
theorem d_Tree_make_49 : decode b_Tree_make 49 = .ok (.iload 5, 2) := by decide +kernel
theorem d_Tree_make_51 : decode b_Tree_make 51 = .ok (.iconst (-1), 1) := by decide +kernel
theorem d_Tree_make_52 : decode b_Tree_make 52 = .ok (.if_icmp .ne 6, 3) := by decide +kernel
theorem d_Tree_make_55 : decode b_Tree_make 55 = .ok (.bipush (-3), 2) := by decide +kernel
theorem d_Tree_make_57 : decode b_Tree_make 57 = .ok (.ireturn, 1) := by decide +kernel
theorem d_Tree_make_58 : decode b_Tree_make 58 = .ok (.aload_n 0, 1) := by decide +kernel
theorem d_Tree_make_59 : decode b_Tree_make 59 = .ok (.getfield 32, 3) := by decide +kernel
theorem d_Tree_make_62 : decode b_Tree_make 62 = .ok (.iload_n 1, 1) := by decide +kernel
theorem d_Tree_make_63 : decode b_Tree_make 63 = .ok (.iload_n 2, 1) := by decide +kernel
theorem d_Tree_make_64 : decode b_Tree_make 64 = .ok (.iload 5, 2) := by decide +kernel
theorem d_Tree_make_66 : decode b_Tree_make 66 = .ok (.invokevirtual 83, 3) := by decide +kernel
theorem d_Tree_make_69 : decode b_Tree_make 69 = .ok (.ifCond .ne 13, 3) := by decide +kernel
theorem d_Tree_make_72 : decode b_Tree_make 72 = .ok (.aload_n 0, 1) := by decide +kernel
theorem d_Tree_make_73 : decode b_Tree_make 73 = .ok (.getfield 12, 3) := by decide +kernel
theorem d_Tree_make_76 : decode b_Tree_make 76 = .ok (.invokevirtual 87, 3) := by decide +kernel
theorem d_Tree_make_79 : decode b_Tree_make 79 = .ok (.bipush (-4), 2) := by decide +kernel
theorem d_Tree_make_81 : decode b_Tree_make 81 = .ok (.ireturn, 1) := by decide +kernel
theorem d_Tree_make_82 : decode b_Tree_make 82 = .ok (.aload_n 0, 1) := by decide +kernel
theorem d_Tree_make_83 : decode b_Tree_make 83 = .ok (.getfield 23, 3) := by decide +kernel
theorem d_Tree_make_86 : decode b_Tree_make 86 = .ok (.iload 5, 2) := by decide +kernel
theorem d_Tree_make_88 : decode b_Tree_make 88 = .ok (.iload_n 3, 1) := by decide +kernel
theorem d_Tree_make_89 : decode b_Tree_make 89 = .ok (.ifCond .eq 7, 3) := by decide +kernel
theorem d_Tree_make_92 : decode b_Tree_make 92 = .ok (.iconst 2, 1) := by decide +kernel
theorem d_Tree_make_93 : decode b_Tree_make 93 = .ok (.goto 4, 3) := by decide +kernel
theorem d_Tree_make_96 : decode b_Tree_make 96 = .ok (.iconst 1, 1) := by decide +kernel
theorem d_Tree_make_97 : decode b_Tree_make 97 = .ok (.invokevirtual 44, 3) := by decide +kernel
theorem d_Tree_make_100 : decode b_Tree_make 100 = .ok (.aload_n 0, 1) := by decide +kernel
theorem d_Tree_make_101 : decode b_Tree_make 101 = .ok (.getfield 12, 3) := by decide +kernel
theorem d_Tree_make_104 : decode b_Tree_make 104 = .ok (.invokevirtual 48, 3) := by decide +kernel
theorem d_Tree_make_107 : decode b_Tree_make 107 = .ok (.iload 5, 2) := by decide +kernel
theorem d_Tree_make_109 : decode b_Tree_make 109 = .ok (.ireturn, 1) := by decide +kernel
set_option maxHeartbeats 4000000 in
set_option maxRecDepth 100000 in
theorem c_Tree_make (l : Launch) (D : va_G) (g : Nat → Nat) (k : Nat → ClassId) (L : Nat) (hL0 : 96 ≤ L) (hL : L ≤ 768) (u : DSt) (f0 : Nat → Int32) (tl : Nat) (tp : Nat → Int32) (d w : Nat) (b : Bool) (hd0 : d < 64) (hw1 : 1 ≤ w) (hw2 : w ≤ 65535) : MuI l y_Tree_make w_Tree_make ({ frames := 8, cells := 0, slots := 0, locals := 204 }) [.ref (g 9), .int (nI d), .int (nI w), .int (zI (b))] D cl5 (tyC k) (wT g k L u f0 tl tp) (wT g k L ((mkC L u d w (if b then 2 else 1)).2) f0 tl tp) ((mkC L u d w (if b then 2 else 1)).1) := by
  intro sz
  refine Met.ofW (cc := b_Tree_make) (maxL := 6) (ret := (some .int)) (by decide) rfl ?_
  intro p e s m args below meth c s₁ B hml hv
  obtain ⟨rfl, hsz, hP, hK, hD0⟩ := hv
  have hx := B.exec
  have hb := B.bytes
  have hr := B.returns
  have hts := atoms_spec (ws := w_Tree_make) B.pre
  have hTB : ∀ w ∈ lw_tb, w.before _ s = true := fun w h => hts w (List.mem_cons_of_mem _ h)
  have hown : s.vm.findClass R_Tree = some m.cls := findClass_of_methodNamed B.named
  have hlocks := B.notSynchronized
  subst hsz
  have hD := hD0.self (sz := s.heap.size)
  generalize hAe : va_A (wT g k L u f0 tl tp) s.heap.size = A at hD ⊢
  have hA : ∀ q : Nat, s.heap.size ≤ q → A q := fun q h => by rw [← hAe]; exact Or.inr h
  have hS : va_S A s.heap s.heap [] := va_S.rf
  have hl := lv_entry ([.ref (g 9), .int (nI d), .int (nI w), .int (zI (b))]) (n := 6) (Nat.le_of_ble_eq_true rfl)
  rw [lg_entry_eq]
  generalize (lg_sl ([.ref (g 9), .int (nI d), .int (nI w), .int (zI (b))]) ++ List.replicate (6 - (lg_sl ([.ref (g 9), .int (nI d), .int (nI w), .int (zI (b))])).length) Slot.unset).toArray = ls at hl ⊢
  have hl : lv_has ls 6 [(0, .ref (g 9)), (1, .int (nI d)), (2, .int (nI w)), (3, .int (zI (b)))] := hl
  refine lv_iload_n hx hb d_Tree_make_0 rfl (lv_at hl 1 rfl) ?_
  refine gz_roSv (As := [.int (nI d)]) (rest := []) ⟨hx, hb, hml, hown, hTB⟩ (c_Tree_checkInode l d (by omega)) (cwS 1 hTB (gd_S k_327 k_328 k_51 k_329) rfl rfl rfl (by decide +kernel) ⟨Nat.le_of_ble_eq_true rfl, Nat.le_of_ble_eq_true rfl⟩) hP rfl hl.1 rfl (Nat.le_of_ble_eq_true rfl) d_Tree_make_1 ⟨Nat.zero_le _, Nat.zero_le _⟩ hS (fun H locs hP hS => ?_)
  refine lv_iload_n hx hb d_Tree_make_4 rfl (lv_at hl 2 rfl) ?_
  refine gz_roSv (As := [.int (nI w)]) (rest := []) ⟨hx, hb, hml, hown, hTB⟩ (c_Tree_checkName l w (by omega) (by omega)) (cwS 1 hTB (gd_S k_331 k_332 k_51 k_333) rfl rfl rfl (by decide +kernel) ⟨Nat.le_of_ble_eq_true rfl, Nat.le_of_ble_eq_true rfl⟩) hP rfl hl.1 rfl (Nat.le_of_ble_eq_true rfl) d_Tree_make_5 ⟨Nat.zero_le _, Nat.zero_le _⟩ hS (fun H locs hP hS => ?_)
  refine lv_aload_n hx hb d_Tree_make_8 rfl (lv_at hl 0 rfl) ?_
  refine lv_iload_n hx hb d_Tree_make_9 rfl (lv_at hl 1 rfl) ?_
  refine lv_iconst (v := nI 2) hx hb d_Tree_make_10 (by decide +kernel) ?_
  refine gz_roV (As := [.int (nI d), .int (nI 2)]) (rest := []) (wc := (wT g k L u f0 tl tp)) ⟨hx, hb, hml, hown, hTB⟩ (c_Tree_kindFault l D g k L hL0 hL u f0 tl tp d 2 (by decide)) (cwV 2 hTB (gd_V k_336 k_338 k_8 k_51 k_339) rfl rfl rfl (by decide +kernel) ⟨Nat.le_of_ble_eq_true rfl, Nat.le_of_ble_eq_true rfl⟩) hK hP [0, 1, 2, 3, 4, 5, 6, 7, 8, 9, 10] rfl 0 rfl rfl rfl hl.1 rfl (Nat.le_of_ble_eq_true rfl) d_Tree_make_11 ⟨Nat.zero_le _, Nat.zero_le _⟩ hS (fun H locs hP hS => ?_)
  refine lv_istore (lv' := [(4, .int (kfl (iK L (dNow u) d) 2)), (0, .ref (g 9)), (1, .int (nI d)), (2, .int (nI w)), (3, .int (zI (b)))]) hx hb d_Tree_make_14 hl (by decide) rfl (fun ls hl => ?_)
  refine lv_iload hx hb d_Tree_make_16 (lv_at hl 0 rfl) ?_
  refine lv_if_ge (tgt := 24) hx hb d_Tree_make_18 (by decide) (fun h18 => ?_) (fun h18 => ?_)
  · refine lv_aload_n hx hb d_Tree_make_24 rfl (lv_at hl 1 rfl) ?_
    refine va_get (D := D) (ci := 3) (v := .ref (g 7)) (C := R_Tree) (T := T_Tree) (N := 5) hx hb hTB in_Tree hown hK hP 0 rfl rfl 2 (by decide) (hTB _ k_197) (fun _ h9 => h9) rfl d_Tree_make_25 ?_
    refine lv_iload_n hx hb d_Tree_make_28 rfl (lv_at hl 2 rfl) ?_
    refine lv_iload_n hx hb d_Tree_make_29 rfl (lv_at hl 3 rfl) ?_
    refine gz_roV (As := [.int (nI d), .int (nI w)]) (rest := []) (wc := (wR g k L u f0)) ⟨hx, hb, hml, hown, hTB⟩ (c_Dirs_entryNamed l D g k L hL0 hL u f0 d w (by omega)) (cwV 2 hTB (gd_V k_348 k_349 k_350 k_55 k_351) rfl rfl rfl (by decide +kernel) ⟨Nat.le_of_ble_eq_true rfl, Nat.le_of_ble_eq_true rfl⟩) hK hP [2, 3, 4, 5, 6, 7, 8, 9, 10] rfl 2 rfl rfl rfl hl.1 rfl (Nat.le_of_ble_eq_true rfl) d_Tree_make_30 ⟨Nat.zero_le _, Nat.zero_le _⟩ hS (fun H locs hP hS => ?_)
    refine lv_iconst (v := (-1)) hx hb d_Tree_make_33 (by decide +kernel) ?_
    refine lv_icmp_eq (tgt := 40) hx hb d_Tree_make_34 (by decide) (fun h34 => ?_) (fun h34 => ?_)
    · refine lv_aload_n hx hb d_Tree_make_40 rfl (lv_at hl 1 rfl) ?_
      refine va_get (D := D) (ci := 3) (v := .ref (g 6)) (C := R_Tree) (T := T_Tree) (N := 5) hx hb hTB in_Tree hown hK hP 0 rfl rfl 1 (by decide) (hTB _ k_196) (fun _ h9 => h9) rfl d_Tree_make_41 ?_
      refine gz_roV (As := []) (rest := []) (wc := (wI g k L u)) ⟨hx, hb, hml, hown, hTB⟩ (c_Inodes_leastFree l D g k L hL0 hL u) (cwV 0 hTB (gd_V k_381 k_382 k_383 k_54 k_384) rfl rfl rfl (by decide +kernel) ⟨Nat.le_of_ble_eq_true rfl, Nat.le_of_ble_eq_true rfl⟩) hK hP [4, 5, 6, 7, 8, 9, 10] rfl 4 rfl rfl rfl hl.1 rfl (Nat.le_of_ble_eq_true rfl) d_Tree_make_44 ⟨Nat.zero_le _, Nat.zero_le _⟩ hS (fun H locs hP hS => ?_)
      refine lv_istore (lv' := [(5, .int (ilf L (dNow u))), (4, .int (kfl (iK L (dNow u) d) 2)), (0, .ref (g 9)), (1, .int (nI d)), (2, .int (nI w)), (3, .int (zI (b)))]) hx hb d_Tree_make_47 hl (by decide) rfl (fun ls hl => ?_)
      refine lv_iload hx hb d_Tree_make_49 (lv_at hl 0 rfl) ?_
      refine lv_iconst (v := (-1)) hx hb d_Tree_make_51 (by decide +kernel) ?_
      refine lv_icmp_ne (tgt := 58) hx hb d_Tree_make_52 (by decide) (fun h52 => ?_) (fun h52 => ?_)
      · obtain ⟨j, hj, ej⟩ := ilf_of h52
        have hl : lv_has ls 6 [(5, .int (nI j)), (4, .int (kfl (iK L (dNow u) d) 2)), (0, .ref (g 9)), (1, .int (nI d)), (2, .int (nI w)), (3, .int (zI (b)))] := by rw [← ej]; exact hl
        refine lv_aload_n hx hb d_Tree_make_58 rfl (lv_at hl 2 rfl) ?_
        refine va_get (D := D) (ci := 3) (v := .ref (g 7)) (C := R_Tree) (T := T_Tree) (N := 5) hx hb hTB in_Tree hown hK hP 0 rfl rfl 2 (by decide) (hTB _ k_197) (fun _ h9 => h9) rfl d_Tree_make_59 ?_
        refine lv_iload_n hx hb d_Tree_make_62 rfl (lv_at hl 3 rfl) ?_
        refine lv_iload_n hx hb d_Tree_make_63 rfl (lv_at hl 4 rfl) ?_
        refine lv_iload hx hb d_Tree_make_64 (lv_at hl 0 rfl) ?_
        refine gz_muI (As := [.int (nI d), .int (nI w), .int (nI j)]) (rest := []) (wc := (wR g k L u f0)) (w1 := (wR g k L ((adE L u d (nI w) (nI j)).2) f0)) (wr := (hT g k tl tp)) ⟨hx, hb, hml, hown, hTB⟩ (c_Dirs_addEntry l D g k L hL0 hL u f0 d (nI w) (nI j)) (cwV 3 hTB (gd_V k_386 k_387 k_388 k_55 k_389) rfl rfl rfl (by decide +kernel) ⟨Nat.le_of_ble_eq_true rfl, Nat.le_of_ble_eq_true rfl⟩) hK hP hD hA [2, 3, 4, 5, 6, 7, 8, 9, 10] [0, 1] rfl rfl (by decide) rfl (by decide) (by decide) 2 rfl rfl rfl hl.1 rfl (Nat.le_of_ble_eq_true rfl) d_Tree_make_66 ⟨Nat.zero_le _, Nat.zero_le _⟩ hS (fun H locs hP hD hS => ?_)
        have hP : va_P D cl5 (wT g k L ((adE L u d (nI w) (nI j)).2) f0 tl tp) H := hP
        have hD : va_D A (wT g k L ((adE L u d (nI w) (nI j)).2) f0 tl tp) := hD
        refine gz_ifz_ne (tgt := 82) hx hb d_Tree_make_69 (by decide) (fun h69 => ?_) (fun h69 => ?_)
        · refine lv_aload_n hx hb d_Tree_make_82 rfl (lv_at hl 2 rfl) ?_
          refine va_get (D := D) (ci := 3) (v := .ref (g 6)) (C := R_Tree) (T := T_Tree) (N := 5) hx hb hTB in_Tree hown hK hP 0 rfl rfl 1 (by decide) (hTB _ k_196) (fun _ h9 => h9) rfl d_Tree_make_83 ?_
          refine lv_iload hx hb d_Tree_make_86 (lv_at hl 0 rfl) ?_
          refine lv_iload_n hx hb d_Tree_make_88 rfl (lv_at hl 5 rfl) ?_
          refine gz_ifz_eq (tgt := 96) hx hb d_Tree_make_89 (by decide) (fun h89 => ?_) (fun h89 => ?_)
          · refine lv_iconst (v := nI 1) hx hb d_Tree_make_96 (by decide +kernel) ?_
            refine gz_muV (As := [.int (nI j), .int (nI 1)]) (rest := []) (wc := (wI g k L ((adE L u d (nI w) (nI j)).2))) (w1 := (wI g k L (setB L ((adE L u d (nI w) (nI j)).2) (nI (1600 + 32 * j)) (nI 1)))) (wr := (hT g k tl tp ++ hR g k f0)) ⟨hx, hb, hml, hown, hTB⟩ (c_Inodes_begin l D g k L hL0 hL ((adE L u d (nI w) (nI j)).2) j (nI 1)) (cwV 2 hTB (gd_V k_143 k_144 k_145 k_54 k_146) rfl rfl rfl (by decide +kernel) ⟨Nat.le_of_ble_eq_true rfl, Nat.le_of_ble_eq_true rfl⟩) hK hP hD hA [4, 5, 6, 7, 8, 9, 10] [0, 1, 2, 3] rfl rfl (by decide) rfl (by decide) (by decide) 4 rfl rfl rfl hl.1 rfl (Nat.le_of_ble_eq_true rfl) d_Tree_make_97 ⟨Nat.zero_le _, Nat.zero_le _⟩ hS (fun H locs hP hD hS => ?_)
            have hP : va_P D cl5 (wT g k L (setB L ((adE L u d (nI w) (nI j)).2) (nI (1600 + 32 * j)) (nI 1)) f0 tl tp) H := hP
            have hD : va_D A (wT g k L (setB L ((adE L u d (nI w) (nI j)).2) (nI (1600 + 32 * j)) (nI 1)) f0 tl tp) := hD
            refine lv_aload_n hx hb d_Tree_make_100 rfl (lv_at hl 2 rfl) ?_
            refine va_get (D := D) (ci := 3) (v := .ref (g 0)) (C := R_Tree) (T := T_Tree) (N := 5) hx hb hTB in_Tree hown hK hP 0 rfl rfl 0 (by decide) (hTB _ k_195) (fun _ h9 => h9) rfl d_Tree_make_101 ?_
            refine gz_muV (As := []) (rest := []) (wc := (wD g k L (setB L ((adE L u d (nI w) (nI j)).2) (nI (1600 + 32 * j)) (nI 1)))) (w1 := (wD g k L (stl L (setB L ((adE L u d (nI w) (nI j)).2) (nI (1600 + 32 * j)) (nI 1))))) (wr := (hT g k tl tp ++ (hR g k f0 ++ hI g))) ⟨hx, hb, hml, hown, hTB⟩ (c_Disk_settle l D g k L hL0 hL (setB L ((adE L u d (nI w) (nI j)).2) (nI (1600 + 32 * j)) (nI 1))) (cwV 0 hTB (gd_V k_156 k_157 k_158 k_52 k_159) rfl rfl rfl (by decide +kernel) ⟨Nat.le_of_ble_eq_true rfl, Nat.le_of_ble_eq_true rfl⟩) hK hP hD hA [5, 6, 7, 8, 9, 10] [0, 1, 2, 3, 4] rfl rfl (by decide) rfl (by decide) (by decide) 5 rfl rfl rfl hl.1 rfl (Nat.le_of_ble_eq_true rfl) d_Tree_make_104 ⟨Nat.zero_le _, Nat.zero_le _⟩ hS (fun H locs hP hD hS => ?_)
            have hP : va_P D cl5 (wT g k L (stl L (setB L ((adE L u d (nI w) (nI j)).2) (nI (1600 + 32 * j)) (nI 1))) f0 tl tp) H := hP
            have hD : va_D A (wT g k L (stl L (setB L ((adE L u d (nI w) (nI j)).2) (nI (1600 + 32 * j)) (nI 1))) f0 tl tp) := hD
            refine lv_iload hx hb d_Tree_make_107 (lv_at hl 0 rfl) ?_
            have hP9 : va_P D cl5 (wT g k L ((mkC L u d w (if b then 2 else 1)).2) f0 tl tp) H := (by unfold mkC; rw [if_pos h18, if_pos h34, if_neg h52, ej, if_pos h69, nI_clamp (by omega), h89]; exact hP)
            have hD9 : va_D A (wT g k L ((mkC L u d w (if b then 2 else 1)).2) f0 tl tp) := (by unfold mkC; rw [if_pos h18, if_pos h34, if_neg h52, ej, if_pos h69, nI_clamp (by omega), h89]; exact hD)
            exact W.iret (v := nI j) hx hb hr (fun tt9 ht9 hW9 => ⟨⟨_, (), rfl, (by unfold mkC; rw [if_pos h18, if_pos h34, if_neg h52, ej, if_pos h69, nI_clamp (by omega), h89]), ⟨by rw [ht9]; exact hP9, hD9⟩⟩, hS.F ht9⟩) hS.2.2 d_Tree_make_109
          · refine lv_iconst (v := nI 2) hx hb d_Tree_make_92 (by decide +kernel) ?_
            refine lv_goto (tgt := 97) hx hb d_Tree_make_93 (by decide) ?_
            refine gz_muV (As := [.int (nI j), .int (nI 2)]) (rest := []) (wc := (wI g k L ((adE L u d (nI w) (nI j)).2))) (w1 := (wI g k L (setB L ((adE L u d (nI w) (nI j)).2) (nI (1600 + 32 * j)) (nI 2)))) (wr := (hT g k tl tp ++ hR g k f0)) ⟨hx, hb, hml, hown, hTB⟩ (c_Inodes_begin l D g k L hL0 hL ((adE L u d (nI w) (nI j)).2) j (nI 2)) (cwV 2 hTB (gd_V k_143 k_144 k_145 k_54 k_146) rfl rfl rfl (by decide +kernel) ⟨Nat.le_of_ble_eq_true rfl, Nat.le_of_ble_eq_true rfl⟩) hK hP hD hA [4, 5, 6, 7, 8, 9, 10] [0, 1, 2, 3] rfl rfl (by decide) rfl (by decide) (by decide) 4 rfl rfl rfl hl.1 rfl (Nat.le_of_ble_eq_true rfl) d_Tree_make_97 ⟨Nat.zero_le _, Nat.zero_le _⟩ hS (fun H locs hP hD hS => ?_)
            have hP : va_P D cl5 (wT g k L (setB L ((adE L u d (nI w) (nI j)).2) (nI (1600 + 32 * j)) (nI 2)) f0 tl tp) H := hP
            have hD : va_D A (wT g k L (setB L ((adE L u d (nI w) (nI j)).2) (nI (1600 + 32 * j)) (nI 2)) f0 tl tp) := hD
            refine lv_aload_n hx hb d_Tree_make_100 rfl (lv_at hl 2 rfl) ?_
            refine va_get (D := D) (ci := 3) (v := .ref (g 0)) (C := R_Tree) (T := T_Tree) (N := 5) hx hb hTB in_Tree hown hK hP 0 rfl rfl 0 (by decide) (hTB _ k_195) (fun _ h9 => h9) rfl d_Tree_make_101 ?_
            refine gz_muV (As := []) (rest := []) (wc := (wD g k L (setB L ((adE L u d (nI w) (nI j)).2) (nI (1600 + 32 * j)) (nI 2)))) (w1 := (wD g k L (stl L (setB L ((adE L u d (nI w) (nI j)).2) (nI (1600 + 32 * j)) (nI 2))))) (wr := (hT g k tl tp ++ (hR g k f0 ++ hI g))) ⟨hx, hb, hml, hown, hTB⟩ (c_Disk_settle l D g k L hL0 hL (setB L ((adE L u d (nI w) (nI j)).2) (nI (1600 + 32 * j)) (nI 2))) (cwV 0 hTB (gd_V k_156 k_157 k_158 k_52 k_159) rfl rfl rfl (by decide +kernel) ⟨Nat.le_of_ble_eq_true rfl, Nat.le_of_ble_eq_true rfl⟩) hK hP hD hA [5, 6, 7, 8, 9, 10] [0, 1, 2, 3, 4] rfl rfl (by decide) rfl (by decide) (by decide) 5 rfl rfl rfl hl.1 rfl (Nat.le_of_ble_eq_true rfl) d_Tree_make_104 ⟨Nat.zero_le _, Nat.zero_le _⟩ hS (fun H locs hP hD hS => ?_)
            have hP : va_P D cl5 (wT g k L (stl L (setB L ((adE L u d (nI w) (nI j)).2) (nI (1600 + 32 * j)) (nI 2))) f0 tl tp) H := hP
            have hD : va_D A (wT g k L (stl L (setB L ((adE L u d (nI w) (nI j)).2) (nI (1600 + 32 * j)) (nI 2))) f0 tl tp) := hD
            refine lv_iload hx hb d_Tree_make_107 (lv_at hl 0 rfl) ?_
            have hP9 : va_P D cl5 (wT g k L ((mkC L u d w (if b then 2 else 1)).2) f0 tl tp) H := (by unfold mkC; rw [if_pos h18, if_pos h34, if_neg h52, ej, if_pos h69, nI_clamp (by omega), h89]; exact hP)
            have hD9 : va_D A (wT g k L ((mkC L u d w (if b then 2 else 1)).2) f0 tl tp) := (by unfold mkC; rw [if_pos h18, if_pos h34, if_neg h52, ej, if_pos h69, nI_clamp (by omega), h89]; exact hD)
            exact W.iret (v := nI j) hx hb hr (fun tt9 ht9 hW9 => ⟨⟨_, (), rfl, (by unfold mkC; rw [if_pos h18, if_pos h34, if_neg h52, ej, if_pos h69, nI_clamp (by omega), h89]), ⟨by rw [ht9]; exact hP9, hD9⟩⟩, hS.F ht9⟩) hS.2.2 d_Tree_make_109
        · refine lv_aload_n hx hb d_Tree_make_72 rfl (lv_at hl 2 rfl) ?_
          refine va_get (D := D) (ci := 3) (v := .ref (g 0)) (C := R_Tree) (T := T_Tree) (N := 5) hx hb hTB in_Tree hown hK hP 0 rfl rfl 0 (by decide) (hTB _ k_195) (fun _ h9 => h9) rfl d_Tree_make_73 ?_
          refine gz_muV (As := []) (rest := []) (wc := (wD g k L ((adE L u d (nI w) (nI j)).2))) (w1 := (wD g k L (und L ((adE L u d (nI w) (nI j)).2)))) (wr := (hT g k tl tp ++ (hR g k f0 ++ hI g))) ⟨hx, hb, hml, hown, hTB⟩ (c_Disk_undo l D g k L hL0 hL ((adE L u d (nI w) (nI j)).2)) (cwV 0 hTB (gd_V k_435 k_436 k_437 k_52 k_438) rfl rfl rfl (by decide +kernel) ⟨Nat.le_of_ble_eq_true rfl, Nat.le_of_ble_eq_true rfl⟩) hK hP hD hA [5, 6, 7, 8, 9, 10] [0, 1, 2, 3, 4] rfl rfl (by decide) rfl (by decide) (by decide) 5 rfl rfl rfl hl.1 rfl (Nat.le_of_ble_eq_true rfl) d_Tree_make_76 ⟨Nat.zero_le _, Nat.zero_le _⟩ hS (fun H locs hP hD hS => ?_)
          have hP : va_P D cl5 (wT g k L (und L ((adE L u d (nI w) (nI j)).2)) f0 tl tp) H := hP
          have hD : va_D A (wT g k L (und L ((adE L u d (nI w) (nI j)).2)) f0 tl tp) := hD
          refine lv_bipush (v := (-4)) hx hb d_Tree_make_79 (by decide +kernel) ?_
          have hP9 : va_P D cl5 (wT g k L ((mkC L u d w (if b then 2 else 1)).2) f0 tl tp) H := (by unfold mkC; rw [if_pos h18, if_pos h34, if_neg h52, ej, if_neg (by rw [h69]; decide)]; exact hP)
          have hD9 : va_D A (wT g k L ((mkC L u d w (if b then 2 else 1)).2) f0 tl tp) := (by unfold mkC; rw [if_pos h18, if_pos h34, if_neg h52, ej, if_neg (by rw [h69]; decide)]; exact hD)
          exact W.iret (v := (-4)) hx hb hr (fun tt9 ht9 hW9 => ⟨⟨_, (), rfl, (by unfold mkC; rw [if_pos h18, if_pos h34, if_neg h52, ej, if_neg (by rw [h69]; decide)]), ⟨by rw [ht9]; exact hP9, hD9⟩⟩, hS.F ht9⟩) hS.2.2 d_Tree_make_81
      · refine lv_bipush (v := (-3)) hx hb d_Tree_make_55 (by decide +kernel) ?_
        have hP9 : va_P D cl5 (wT g k L ((mkC L u d w (if b then 2 else 1)).2) f0 tl tp) H := (by unfold mkC; rw [if_pos h18, if_pos h34, if_pos h52]; exact hP)
        have hD9 : va_D A (wT g k L ((mkC L u d w (if b then 2 else 1)).2) f0 tl tp) := (by unfold mkC; rw [if_pos h18, if_pos h34, if_pos h52]; exact hD)
        exact W.iret (v := (-3)) hx hb hr (fun tt9 ht9 hW9 => ⟨⟨_, (), rfl, (by unfold mkC; rw [if_pos h18, if_pos h34, if_pos h52]), ⟨by rw [ht9]; exact hP9, hD9⟩⟩, hS.F ht9⟩) hS.2.2 d_Tree_make_57
    · refine lv_bipush (v := (-2)) hx hb d_Tree_make_37 (by decide +kernel) ?_
      have hP9 : va_P D cl5 (wT g k L ((mkC L u d w (if b then 2 else 1)).2) f0 tl tp) H := (by unfold mkC; rw [if_pos h18, if_neg h34]; exact hP)
      have hD9 : va_D A (wT g k L ((mkC L u d w (if b then 2 else 1)).2) f0 tl tp) := (by unfold mkC; rw [if_pos h18, if_neg h34]; exact hD)
      exact W.iret (v := (-2)) hx hb hr (fun tt9 ht9 hW9 => ⟨⟨_, (), rfl, (by unfold mkC; rw [if_pos h18, if_neg h34]), ⟨by rw [ht9]; exact hP9, hD9⟩⟩, hS.F ht9⟩) hS.2.2 d_Tree_make_39
  · refine lv_iload hx hb d_Tree_make_21 (lv_at hl 0 rfl) ?_
    have hP9 : va_P D cl5 (wT g k L ((mkC L u d w (if b then 2 else 1)).2) f0 tl tp) H := (by unfold mkC; rw [if_neg h18]; exact hP)
    have hD9 : va_D A (wT g k L ((mkC L u d w (if b then 2 else 1)).2) f0 tl tp) := (by unfold mkC; rw [if_neg h18]; exact hD)
    exact W.iret (v := kfl (iK L (dNow u) d) 2) hx hb hr (fun tt9 ht9 hW9 => ⟨⟨_, (), rfl, (by unfold mkC; rw [if_neg h18]), ⟨by rw [ht9]; exact hP9, hD9⟩⟩, hS.F ht9⟩) hS.2.2 d_Tree_make_23
theorem d_Tree_write_0 : decode b_Tree_write 0 = .ok (.iload_n 1, 1) := by decide +kernel
theorem d_Tree_write_1 : decode b_Tree_write 1 = .ok (.invokestatic 66, 3) := by decide +kernel
theorem d_Tree_write_4 : decode b_Tree_write 4 = .ok (.aload_n 0, 1) := by decide +kernel
theorem d_Tree_write_5 : decode b_Tree_write 5 = .ok (.getfield 40, 3) := by decide +kernel
theorem d_Tree_write_8 : decode b_Tree_write 8 = .ok (.istore_n 3, 1) := by decide +kernel
theorem d_Tree_write_9 : decode b_Tree_write 9 = .ok (.aload_n 0, 1) := by decide +kernel
theorem d_Tree_write_10 : decode b_Tree_write 10 = .ok (.iconst 0, 1) := by decide +kernel
theorem d_Tree_write_11 : decode b_Tree_write 11 = .ok (.putfield 40, 3) := by decide +kernel
theorem d_Tree_write_14 : decode b_Tree_write 14 = .ok (.aload_n 0, 1) := by decide +kernel
theorem d_Tree_write_15 : decode b_Tree_write 15 = .ok (.iload_n 1, 1) := by decide +kernel
theorem d_Tree_write_16 : decode b_Tree_write 16 = .ok (.iconst 1, 1) := by decide +kernel
theorem d_Tree_write_17 : decode b_Tree_write 17 = .ok (.invokevirtual 72, 3) := by decide +kernel
theorem d_Tree_write_20 : decode b_Tree_write 20 = .ok (.istore 4, 2) := by decide +kernel
theorem d_Tree_write_22 : decode b_Tree_write 22 = .ok (.iload 4, 2) := by decide +kernel
theorem d_Tree_write_24 : decode b_Tree_write 24 = .ok (.ifCond .ge 6, 3) := by decide +kernel
theorem d_Tree_write_27 : decode b_Tree_write 27 = .ok (.iload 4, 2) := by decide +kernel
theorem d_Tree_write_29 : decode b_Tree_write 29 = .ok (.ireturn, 1) := by decide +kernel
theorem d_Tree_write_30 : decode b_Tree_write 30 = .ok (.aload_n 0, 1) := by decide +kernel
theorem d_Tree_write_31 : decode b_Tree_write 31 = .ok (.getfield 23, 3) := by decide +kernel
theorem d_Tree_write_34 : decode b_Tree_write 34 = .ok (.iload_n 1, 1) := by decide +kernel
theorem d_Tree_write_35 : decode b_Tree_write 35 = .ok (.invokevirtual 97, 3) := by decide +kernel
theorem d_Tree_write_38 : decode b_Tree_write 38 = .ok (.istore 5, 2) := by decide +kernel
theorem d_Tree_write_40 : decode b_Tree_write 40 = .ok (.iload_n 2, 1) := by decide +kernel
theorem d_Tree_write_41 : decode b_Tree_write 41 = .ok (.ifCond .lt 9, 3) := by decide +kernel
theorem d_Tree_write_44 : decode b_Tree_write 44 = .ok (.iload_n 2, 1) := by decide +kernel
theorem d_Tree_write_45 : decode b_Tree_write 45 = .ok (.iload 5, 2) := by decide +kernel
theorem d_Tree_write_47 : decode b_Tree_write 47 = .ok (.if_icmp .le 6, 3) := by decide +kernel
theorem d_Tree_write_50 : decode b_Tree_write 50 = .ok (.bipush (-8), 2) := by decide +kernel
theorem d_Tree_write_52 : decode b_Tree_write 52 = .ok (.ireturn, 1) := by decide +kernel
theorem d_Tree_write_53 : decode b_Tree_write 53 = .ok (.iload 5, 2) := by decide +kernel
theorem d_Tree_write_55 : decode b_Tree_write 55 = .ok (.iload_n 2, 1) := by decide +kernel
theorem d_Tree_write_56 : decode b_Tree_write 56 = .ok (.iload_n 3, 1) := by decide +kernel
theorem d_Tree_write_57 : decode b_Tree_write 57 = .ok (.iadd, 1) := by decide +kernel
theorem d_Tree_write_58 : decode b_Tree_write 58 = .ok (.invokestatic 100, 3) := by decide +kernel
theorem d_Tree_write_61 : decode b_Tree_write 61 = .ok (.istore 6, 2) := by decide +kernel
theorem d_Tree_write_63 : decode b_Tree_write 63 = .ok (.aload_n 0, 1) := by decide +kernel
theorem d_Tree_write_64 : decode b_Tree_write 64 = .ok (.getfield 23, 3) := by decide +kernel
theorem d_Tree_write_67 : decode b_Tree_write 67 = .ok (.iload_n 1, 1) := by decide +kernel
theorem d_Tree_write_68 : decode b_Tree_write 68 = .ok (.iload 6, 2) := by decide +kernel
theorem d_Tree_write_70 : decode b_Tree_write 70 = .ok (.invokevirtual 105, 3) := by decide +kernel
theorem d_Tree_write_73 : decode b_Tree_write 73 = .ok (.ifCond .ne 13, 3) := by decide +kernel
theorem d_Tree_write_76 : decode b_Tree_write 76 = .ok (.aload_n 0, 1) := by decide +kernel
theorem d_Tree_write_77 : decode b_Tree_write 77 = .ok (.getfield 12, 3) := by decide +kernel
theorem d_Tree_write_80 : decode b_Tree_write 80 = .ok (.invokevirtual 87, 3) := by decide +kernel
theorem d_Tree_write_83 : decode b_Tree_write 83 = .ok (.bipush (-4), 2) := by decide +kernel
theorem d_Tree_write_85 : decode b_Tree_write 85 = .ok (.ireturn, 1) := by decide +kernel
theorem d_Tree_write_86 : decode b_Tree_write 86 = .ok (.iconst 0, 1) := by decide +kernel
theorem d_Tree_write_87 : decode b_Tree_write 87 = .ok (.istore 7, 2) := by decide +kernel
theorem d_Tree_write_89 : decode b_Tree_write 89 = .ok (.iload 7, 2) := by decide +kernel
theorem d_Tree_write_91 : decode b_Tree_write 91 = .ok (.iload_n 3, 1) := by decide +kernel
theorem d_Tree_write_92 : decode b_Tree_write 92 = .ok (.if_icmp .ge 35, 3) := by decide +kernel
theorem d_Tree_write_95 : decode b_Tree_write 95 = .ok (.aload_n 0, 1) := by decide +kernel
theorem d_Tree_write_96 : decode b_Tree_write 96 = .ok (.getfield 12, 3) := by decide +kernel
theorem d_Tree_write_99 : decode b_Tree_write 99 = .ok (.aload_n 0, 1) := by decide +kernel
theorem d_Tree_write_100 : decode b_Tree_write 100 = .ok (.getfield 23, 3) := by decide +kernel
theorem d_Tree_write_103 : decode b_Tree_write 103 = .ok (.iload_n 1, 1) := by decide +kernel
theorem d_Tree_write_104 : decode b_Tree_write 104 = .ok (.iload_n 2, 1) := by decide +kernel
theorem d_Tree_write_105 : decode b_Tree_write 105 = .ok (.iload 7, 2) := by decide +kernel
theorem d_Tree_write_107 : decode b_Tree_write 107 = .ok (.iadd, 1) := by decide +kernel
theorem d_Tree_write_108 : decode b_Tree_write 108 = .ok (.invokevirtual 109, 3) := by decide +kernel
theorem d_Tree_write_111 : decode b_Tree_write 111 = .ok (.aload_n 0, 1) := by decide +kernel
theorem d_Tree_write_112 : decode b_Tree_write 112 = .ok (.getfield 36, 3) := by decide +kernel
theorem d_Tree_write_115 : decode b_Tree_write 115 = .ok (.iload 7, 2) := by decide +kernel
theorem d_Tree_write_117 : decode b_Tree_write 117 = .ok (.iaload, 1) := by decide +kernel
theorem d_Tree_write_118 : decode b_Tree_write 118 = .ok (.invokevirtual 112, 3) := by decide +kernel
theorem d_Tree_write_121 : decode b_Tree_write 121 = .ok (.iinc 7 1, 3) := by decide +kernel
theorem d_Tree_write_124 : decode b_Tree_write 124 = .ok (.goto (-35), 3) := by decide +kernel
theorem d_Tree_write_127 : decode b_Tree_write 127 = .ok (.aload_n 0, 1) := by decide +kernel
theorem d_Tree_write_128 : decode b_Tree_write 128 = .ok (.getfield 12, 3) := by decide +kernel
theorem d_Tree_write_131 : decode b_Tree_write 131 = .ok (.invokevirtual 48, 3) := by decide +kernel
theorem d_Tree_write_134 : decode b_Tree_write 134 = .ok (.iload 6, 2) := by decide +kernel
theorem d_Tree_write_136 : decode b_Tree_write 136 = .ok (.ireturn, 1) := by decide +kernel
set_option maxHeartbeats 4000000 in
set_option maxRecDepth 100000 in
theorem c_Tree_write (l : Launch) (D : va_G) (g : Nat → Nat) (k : Nat → ClassId) (L : Nat) (hL0 : 96 ≤ L) (hL : L ≤ 768) (u : DSt) (f0 : Nat → Int32) (tl : Nat) (tp : Nat → Int32) (i : Nat) (x : Int32) (hi0 : i < 64) (ht0 : tl ≤ 512) : MuI l y_Tree_write w_Tree_write ({ frames := 8, cells := 0, slots := 0, locals := 179 }) [.ref (g 9), .int (nI i), .int (x)] D cl5 (tyC k) (wT g k L u f0 tl tp) (wT g k L ((wrC L u i x tl tp).2) f0 0 tp) ((wrC L u i x tl tp).1) := by
  intro sz
  refine Met.ofW (cc := b_Tree_write) (maxL := 8) (ret := (some .int)) (by decide) rfl ?_
  intro p e s m args below meth c s₁ B hml hv
  obtain ⟨rfl, hsz, hP, hK, hD0⟩ := hv
  have hx := B.exec
  have hb := B.bytes
  have hr := B.returns
  have hts := atoms_spec (ws := w_Tree_write) B.pre
  have hTB : ∀ w ∈ lw_tb, w.before _ s = true := fun w h => hts w (List.mem_cons_of_mem _ h)
  have hown : s.vm.findClass R_Tree = some m.cls := findClass_of_methodNamed B.named
  have hlocks := B.notSynchronized
  subst hsz
  have hD := hD0.self (sz := s.heap.size)
  generalize hAe : va_A (wT g k L u f0 tl tp) s.heap.size = A at hD ⊢
  have hA : ∀ q : Nat, s.heap.size ≤ q → A q := fun q h => by rw [← hAe]; exact Or.inr h
  have hS : va_S A s.heap s.heap [] := va_S.rf
  have hl := lv_entry ([.ref (g 9), .int (nI i), .int (x)]) (n := 8) (Nat.le_of_ble_eq_true rfl)
  rw [lg_entry_eq]
  generalize (lg_sl ([.ref (g 9), .int (nI i), .int (x)]) ++ List.replicate (8 - (lg_sl ([.ref (g 9), .int (nI i), .int (x)])).length) Slot.unset).toArray = ls at hl ⊢
  have hl : lv_has ls 8 [(0, .ref (g 9)), (1, .int (nI i)), (2, .int (x))] := hl
  refine lv_iload_n hx hb d_Tree_write_0 rfl (lv_at hl 1 rfl) ?_
  refine gz_roSv (As := [.int (nI i)]) (rest := []) ⟨hx, hb, hml, hown, hTB⟩ (c_Tree_checkInode l i (by omega)) (cwS 1 hTB (gd_S k_327 k_328 k_51 k_329) rfl rfl rfl (by decide +kernel) ⟨Nat.le_of_ble_eq_true rfl, Nat.le_of_ble_eq_true rfl⟩) hP rfl hl.1 rfl (Nat.le_of_ble_eq_true rfl) d_Tree_write_1 ⟨Nat.zero_le _, Nat.zero_le _⟩ hS (fun H locs hP hS => ?_)
  refine lv_aload_n hx hb d_Tree_write_4 rfl (lv_at hl 0 rfl) ?_
  refine va_get (D := D) (ci := 3) (v := .int (nI tl)) (C := R_Tree) (T := T_Tree) (N := 5) hx hb hTB in_Tree hown hK hP 0 rfl rfl 4 (by decide) (hTB _ k_199) (fun _ h9 => h9) rfl d_Tree_write_5 ?_
  refine lv_istore_n (lv' := [(3, .int (nI tl)), (0, .ref (g 9)), (1, .int (nI i)), (2, .int (x))]) hx hb d_Tree_write_8 rfl hl (by decide) rfl (fun ls hl => ?_)
  refine lv_aload_n hx hb d_Tree_write_9 rfl (lv_at hl 1 rfl) ?_
  refine lv_iconst (v := nI 0) hx hb d_Tree_write_10 (by decide +kernel) ?_
  refine va_put (D := D) (ci := 3) (v := .int (nI 0)) (ty := .int) (C := R_Tree) (T := T_Tree) (N := 5) hx hb hTB in_Tree t_Tree t_Tree_ok n_Tree hown hK hP hD hS 0 rfl rfl 4 (by decide) (hTB _ k_199) (fun _ h9 => h9) rfl (by decide +kernel) rfl rfl (Nat.le_of_ble_eq_true rfl) d_Tree_write_11 (fun H locs hP hD hS => ?_)
  have hP : va_P D cl5 (wT g k L u f0 0 tp) H := hP
  have hD : va_D A (wT g k L u f0 0 tp) := hD
  refine lv_aload_n hx hb d_Tree_write_14 rfl (lv_at hl 1 rfl) ?_
  refine lv_iload_n hx hb d_Tree_write_15 rfl (lv_at hl 2 rfl) ?_
  refine lv_iconst (v := nI 1) hx hb d_Tree_write_16 (by decide +kernel) ?_
  refine gz_roV (As := [.int (nI i), .int (nI 1)]) (rest := []) (wc := (wT g k L u f0 0 tp)) ⟨hx, hb, hml, hown, hTB⟩ (c_Tree_kindFault l D g k L hL0 hL u f0 0 tp i 1 (by decide)) (cwV 2 hTB (gd_V k_336 k_338 k_8 k_51 k_339) rfl rfl rfl (by decide +kernel) ⟨Nat.le_of_ble_eq_true rfl, Nat.le_of_ble_eq_true rfl⟩) hK hP [0, 1, 2, 3, 4, 5, 6, 7, 8, 9, 10] rfl 0 rfl rfl rfl hl.1 rfl (Nat.le_of_ble_eq_true rfl) d_Tree_write_17 ⟨Nat.zero_le _, Nat.zero_le _⟩ hS (fun H locs hP hS => ?_)
  refine lv_istore (lv' := [(4, .int (kfl (iK L (dNow u) i) 1)), (3, .int (nI tl)), (0, .ref (g 9)), (1, .int (nI i)), (2, .int (x))]) hx hb d_Tree_write_20 hl (by decide) rfl (fun ls hl => ?_)
  refine lv_iload hx hb d_Tree_write_22 (lv_at hl 0 rfl) ?_
  refine lv_if_ge (tgt := 30) hx hb d_Tree_write_24 (by decide) (fun h24 => ?_) (fun h24 => ?_)
  · refine lv_aload_n hx hb d_Tree_write_30 rfl (lv_at hl 2 rfl) ?_
    refine va_get (D := D) (ci := 3) (v := .ref (g 6)) (C := R_Tree) (T := T_Tree) (N := 5) hx hb hTB in_Tree hown hK hP 0 rfl rfl 1 (by decide) (hTB _ k_196) (fun _ h9 => h9) rfl d_Tree_write_31 ?_
    refine lv_iload_n hx hb d_Tree_write_34 rfl (lv_at hl 3 rfl) ?_
    refine gz_roV (As := [.int (nI i)]) (rest := []) (wc := (wI g k L u)) ⟨hx, hb, hml, hown, hTB⟩ (c_Inodes_size l D g k L hL0 hL u i) (cwV 1 hTB (gd_V k_462 k_353 k_354 k_54 k_355) rfl rfl rfl (by decide +kernel) ⟨Nat.le_of_ble_eq_true rfl, Nat.le_of_ble_eq_true rfl⟩) hK hP [4, 5, 6, 7, 8, 9, 10] rfl 4 rfl rfl rfl hl.1 rfl (Nat.le_of_ble_eq_true rfl) d_Tree_write_35 ⟨Nat.zero_le _, Nat.zero_le _⟩ hS (fun H locs hP hS => ?_)
    have := iS_lt L (dNow u) i
    refine lv_istore (lv' := [(5, .int (nI (iS L (dNow u) i))), (4, .int (kfl (iK L (dNow u) i) 1)), (3, .int (nI tl)), (0, .ref (g 9)), (1, .int (nI i)), (2, .int (x))]) hx hb d_Tree_write_38 hl (by decide) rfl (fun ls hl => ?_)
    refine lv_iload_n hx hb d_Tree_write_40 rfl (lv_at hl 5 rfl) ?_
    refine lv_if_lt (tgt := 50) hx hb d_Tree_write_41 (by decide) (fun h41 => ?_) (fun h41 => ?_)
    · refine lv_bipush (v := (-8)) hx hb d_Tree_write_50 (by decide +kernel) ?_
      have hP9 : va_P D cl5 (wT g k L ((wrC L u i x tl tp).2) f0 0 tp) H := (by unfold wrC; rw [if_pos h24, if_pos (Or.inl h41)]; exact hP)
      have hD9 : va_D A (wT g k L ((wrC L u i x tl tp).2) f0 0 tp) := (by unfold wrC; rw [if_pos h24, if_pos (Or.inl h41)]; exact hD)
      exact W.iret (v := (-8)) hx hb hr (fun tt9 ht9 hW9 => ⟨⟨_, (), rfl, (by unfold wrC; rw [if_pos h24, if_pos (Or.inl h41)]), ⟨by rw [ht9]; exact hP9, hD9⟩⟩, hS.F ht9⟩) hS.2.2 d_Tree_write_52
    · obtain ⟨t, ht, rfl⟩ := nI_of h41
      refine lv_iload_n hx hb d_Tree_write_44 rfl (lv_at hl 5 rfl) ?_
      refine lv_iload hx hb d_Tree_write_45 (lv_at hl 0 rfl) ?_
      refine gz_icmp_le (tgt := 53) hx hb d_Tree_write_47 (by decide) (by omega) (by omega) (fun h47 => ?_) (fun h47 => ?_)
      · refine lv_iload hx hb d_Tree_write_53 (lv_at hl 0 rfl) ?_
        refine lv_iload_n hx hb d_Tree_write_55 rfl (lv_at hl 5 rfl) ?_
        refine lv_iload_n hx hb d_Tree_write_56 rfl (lv_at hl 2 rfl) ?_
        refine gz_iadd hx hb d_Tree_write_57 ?_
        refine gz_mmax hx hb (hml.trans hl.1.symm) hown (hTB _ k_463) (hTB _ k_464) (hTB _ k_62) (hTB _ k_465) (Nat.le_of_ble_eq_true rfl) (Nat.le_of_ble_eq_true rfl) (Nat.zero_le _) (Nat.zero_le _) (by omega) (by omega) d_Tree_write_58 ?_
        refine lv_istore (lv' := [(6, .int (nI (max (iS L (dNow u) i) (t + tl)))), (5, .int (nI (iS L (dNow u) i))), (4, .int (kfl (iK L (dNow u) i) 1)), (3, .int (nI tl)), (0, .ref (g 9)), (1, .int (nI i)), (2, .int (nI t))]) hx hb d_Tree_write_61 hl (by decide) rfl (fun ls hl => ?_)
        refine lv_aload_n hx hb d_Tree_write_63 rfl (lv_at hl 4 rfl) ?_
        refine va_get (D := D) (ci := 3) (v := .ref (g 6)) (C := R_Tree) (T := T_Tree) (N := 5) hx hb hTB in_Tree hown hK hP 0 rfl rfl 1 (by decide) (hTB _ k_196) (fun _ h9 => h9) rfl d_Tree_write_64 ?_
        refine lv_iload_n hx hb d_Tree_write_67 rfl (lv_at hl 5 rfl) ?_
        refine lv_iload hx hb d_Tree_write_68 (lv_at hl 0 rfl) ?_
        refine gz_muI (As := [.int (nI i), .int (nI (max (iS L (dNow u) i) (t + tl)))]) (rest := []) (wc := (wI g k L u)) (w1 := (wI g k L ((rsz L u i (max (iS L (dNow u) i) (t + tl))).2))) (wr := (hT g k 0 tp ++ hR g k f0)) ⟨hx, hb, hml, hown, hTB⟩ (c_Inodes_resize l D g k L hL0 hL u i (max (iS L (dNow u) i) (t + tl)) (by omega)) (cwV 2 hTB (gd_V k_466 k_392 k_393 k_54 k_394) rfl rfl rfl (by decide +kernel) ⟨Nat.le_of_ble_eq_true rfl, Nat.le_of_ble_eq_true rfl⟩) hK hP hD hA [4, 5, 6, 7, 8, 9, 10] [0, 1, 2, 3] rfl rfl (by decide) rfl (by decide) (by decide) 4 rfl rfl rfl hl.1 rfl (Nat.le_of_ble_eq_true rfl) d_Tree_write_70 ⟨Nat.zero_le _, Nat.zero_le _⟩ hS (fun H locs hP hD hS => ?_)
        have hP : va_P D cl5 (wT g k L ((rsz L u i (max (iS L (dNow u) i) (t + tl))).2) f0 0 tp) H := hP
        have hD : va_D A (wT g k L ((rsz L u i (max (iS L (dNow u) i) (t + tl))).2) f0 0 tp) := hD
        refine gz_ifz_ne (tgt := 86) hx hb d_Tree_write_73 (by decide) (fun h73 => ?_) (fun h73 => ?_)
        · refine lv_iconst (v := nI 0) hx hb d_Tree_write_86 (by decide +kernel) ?_
          refine lv_istore (lv' := [(7, .int (nI 0)), (6, .int (nI (max (iS L (dNow u) i) (t + tl)))), (5, .int (nI (iS L (dNow u) i))), (4, .int (kfl (iK L (dNow u) i) 1)), (3, .int (nI tl)), (0, .ref (g 9)), (1, .int (nI i)), (2, .int (nI t))]) hx hb d_Tree_write_87 hl (by decide) rfl (fun ls hl => ?_)
          refine gz_loop 89 (fun (zz : (Nat × DSt)) H locs ls => match zz with | (j, v) => va_P D cl5 (wT g k L v f0 0 tp) H ∧ va_D A (wT g k L v f0 0 tp) ∧ va_S A s.heap H locs ∧ lv_has ls 8 [(0, .ref (g 9)), (1, .int (nI i)), (2, .int (nI t)), (3, .int (nI tl)), (6, .int (nI (max (iS L (dNow u) i) (t + tl)))), (7, .int (nI j))] ∧ (j ≤ tl) ∧ (wrG L i t tp (tl - j) j v = wrG L i t tp tl 0 (rsz L u i (max (iS L (dNow u) i) (t + tl))).2)) (fun (zz : (Nat × DSt)) => match zz with | (j, v) => tl - j) (fun zz H locs ls hI ih89 => ?_) (0, (rsz L u i (max (iS L (dNow u) i) (t + tl))).2) ⟨hP, hD, hS, lv_sub hl [5, 6, 7, 4, 1, 0] rfl, (by omega), rfl⟩
          obtain ⟨j, v⟩ := zz
          obtain ⟨hP, hD, hS, hl, hj1, hj2⟩ := hI
          refine lv_iload hx hb d_Tree_write_89 (lv_at hl 5 rfl) ?_
          refine lv_iload_n hx hb d_Tree_write_91 rfl (lv_at hl 3 rfl) ?_
          refine gz_icmp_ge (tgt := 127) hx hb d_Tree_write_92 (by decide) (by omega) (by omega) (fun h92 => ?_) (fun h92 => ?_)
          · rw [show tl - j = 0 by omega] at hj2
            have hj2 : v = _ := hj2
            refine lv_aload_n hx hb d_Tree_write_127 rfl (lv_at hl 0 rfl) ?_
            refine va_get (D := D) (ci := 3) (v := .ref (g 0)) (C := R_Tree) (T := T_Tree) (N := 5) hx hb hTB in_Tree hown hK hP 0 rfl rfl 0 (by decide) (hTB _ k_195) (fun _ h9 => h9) rfl d_Tree_write_128 ?_
            refine gz_muV (As := []) (rest := []) (wc := (wD g k L v)) (w1 := (wD g k L (stl L v))) (wr := (hT g k 0 tp ++ (hR g k f0 ++ hI g))) ⟨hx, hb, hml, hown, hTB⟩ (c_Disk_settle l D g k L hL0 hL v) (cwV 0 hTB (gd_V k_156 k_157 k_158 k_52 k_159) rfl rfl rfl (by decide +kernel) ⟨Nat.le_of_ble_eq_true rfl, Nat.le_of_ble_eq_true rfl⟩) hK hP hD hA [5, 6, 7, 8, 9, 10] [0, 1, 2, 3, 4] rfl rfl (by decide) rfl (by decide) (by decide) 5 rfl rfl rfl hl.1 rfl (Nat.le_of_ble_eq_true rfl) d_Tree_write_131 ⟨Nat.zero_le _, Nat.zero_le _⟩ hS (fun H locs hP hD hS => ?_)
            have hP : va_P D cl5 (wT g k L (stl L v) f0 0 tp) H := hP
            have hD : va_D A (wT g k L (stl L v) f0 0 tp) := hD
            refine lv_iload hx hb d_Tree_write_134 (lv_at hl 4 rfl) ?_
            have hP9 : va_P D cl5 (wT g k L ((wrC L u i (nI t) tl tp).2) f0 0 tp) H := (by unfold wrC; rw [if_pos h24, if_neg (fun z => z.elim (nI_pos (by omega)) (nI_nlt h47 (by omega))), nI_clamp (by omega)]; unfold wrN; rw [if_pos h73, ← hj2]; exact hP)
            have hD9 : va_D A (wT g k L ((wrC L u i (nI t) tl tp).2) f0 0 tp) := (by unfold wrC; rw [if_pos h24, if_neg (fun z => z.elim (nI_pos (by omega)) (nI_nlt h47 (by omega))), nI_clamp (by omega)]; unfold wrN; rw [if_pos h73, ← hj2]; exact hD)
            exact W.iret (v := nI (max (iS L (dNow u) i) (t + tl))) hx hb hr (fun tt9 ht9 hW9 => ⟨⟨_, (), rfl, (by unfold wrC; rw [if_pos h24, if_neg (fun z => z.elim (nI_pos (by omega)) (nI_nlt h47 (by omega))), nI_clamp (by omega)]; unfold wrN; rw [if_pos h73, ← hj2]), ⟨by rw [ht9]; exact hP9, hD9⟩⟩, hS.F ht9⟩) hS.2.2 d_Tree_write_136
          · refine lv_aload_n hx hb d_Tree_write_95 rfl (lv_at hl 0 rfl) ?_
            refine va_get (D := D) (ci := 3) (v := .ref (g 0)) (C := R_Tree) (T := T_Tree) (N := 5) hx hb hTB in_Tree hown hK hP 0 rfl rfl 0 (by decide) (hTB _ k_195) (fun _ h9 => h9) rfl d_Tree_write_96 ?_
            refine lv_aload_n hx hb d_Tree_write_99 rfl (lv_at hl 0 rfl) ?_
            refine va_get (D := D) (ci := 3) (v := .ref (g 6)) (C := R_Tree) (T := T_Tree) (N := 5) hx hb hTB in_Tree hown hK hP 0 rfl rfl 1 (by decide) (hTB _ k_196) (fun _ h9 => h9) rfl d_Tree_write_100 ?_
            refine lv_iload_n hx hb d_Tree_write_103 rfl (lv_at hl 1 rfl) ?_
            refine lv_iload_n hx hb d_Tree_write_104 rfl (lv_at hl 2 rfl) ?_
            refine lv_iload hx hb d_Tree_write_105 (lv_at hl 5 rfl) ?_
            refine gz_iadd hx hb d_Tree_write_107 ?_
            refine gz_roV (As := [.int (nI i), .int (nI (t + j))]) (rest := [.ref (g 0)]) (wc := (wI g k L v)) ⟨hx, hb, hml, hown, hTB⟩ (c_Inodes_placeOf l D g k L hL0 hL v i (t + j) (by omega)) (cwV 2 hTB (gd_V k_467 k_362 k_363 k_54 k_364) rfl rfl rfl (by decide +kernel) ⟨Nat.le_of_ble_eq_true rfl, Nat.le_of_ble_eq_true rfl⟩) hK hP [4, 5, 6, 7, 8, 9, 10] rfl 4 rfl rfl rfl hl.1 rfl (Nat.le_of_ble_eq_true rfl) d_Tree_write_108 ⟨Nat.zero_le _, Nat.zero_le _⟩ hS (fun H locs hP hS => ?_)
            refine lv_aload_n hx hb d_Tree_write_111 rfl (lv_at hl 0 rfl) ?_
            refine va_get (D := D) (ci := 3) (v := .ref (g 10)) (C := R_Tree) (T := T_Tree) (N := 5) hx hb hTB in_Tree hown hK hP 0 rfl rfl 3 (by decide) (hTB _ k_198) (fun _ h9 => h9) rfl d_Tree_write_112 ?_
            refine lv_iload hx hb d_Tree_write_115 (lv_at hl 5 rfl) ?_
            refine gz_iald hx hb hK hP 1 2 rfl rfl (i := j) (by omega) (by omega) d_Tree_write_117 ?_
            refine gz_muV (As := [.int (plc L (dNow v) i (t + j)), .int (tp j)]) (rest := []) (wc := (wD g k L v)) (w1 := (wD g k L (setB L v (plc L (dNow v) i (t + j)) (tp j)))) (wr := (hT g k 0 tp ++ (hR g k f0 ++ hI g))) ⟨hx, hb, hml, hown, hTB⟩ (c_Disk_setByte l D g k L hL0 hL v (plc L (dNow v) i (t + j)) (tp j)) (cwV 2 hTB (gd_V k_468 k_151 k_152 k_52 k_153) rfl rfl rfl (by decide +kernel) ⟨Nat.le_of_ble_eq_true rfl, Nat.le_of_ble_eq_true rfl⟩) hK hP hD hA [5, 6, 7, 8, 9, 10] [0, 1, 2, 3, 4] rfl rfl (by decide) rfl (by decide) (by decide) 5 rfl rfl rfl hl.1 rfl (Nat.le_of_ble_eq_true rfl) d_Tree_write_118 ⟨Nat.zero_le _, Nat.zero_le _⟩ hS (fun H locs hP hD hS => ?_)
            have hP : va_P D cl5 (wT g k L (setB L v (plc L (dNow v) i (t + j)) (tp j)) f0 0 tp) H := hP
            have hD : va_D A (wT g k L (setB L v (plc L (dNow v) i (t + j)) (tp j)) f0 0 tp) := hD
            refine lv_iinc (v := nI (j + 1)) (lv' := [(7, .int (nI (j + 1))), (0, .ref (g 9)), (1, .int (nI i)), (2, .int (nI t)), (3, .int (nI tl)), (6, .int (nI (max (iS L (dNow u) i) (t + tl))))]) hx hb d_Tree_write_121 hl (k := 5) rfl (nI_add j 1) (by decide) rfl (fun ls hl => ?_)
            refine lv_goto (tgt := 89) hx hb d_Tree_write_124 (by decide) ?_
            exact ih89 (j + 1, setB L v (plc L (dNow v) i (t + j)) (tp j)) _ _ _ (by first | omega | (dsimp only; omega)) ⟨hP, hD, hS, lv_sub hl [1, 2, 3, 4, 5, 0] rfl, (by omega), (by rw [← hj2, show tl - j = (tl - (j + 1)) + 1 by omega, wrG])⟩
        · refine lv_aload_n hx hb d_Tree_write_76 rfl (lv_at hl 4 rfl) ?_
          refine va_get (D := D) (ci := 3) (v := .ref (g 0)) (C := R_Tree) (T := T_Tree) (N := 5) hx hb hTB in_Tree hown hK hP 0 rfl rfl 0 (by decide) (hTB _ k_195) (fun _ h9 => h9) rfl d_Tree_write_77 ?_
          refine gz_muV (As := []) (rest := []) (wc := (wD g k L ((rsz L u i (max (iS L (dNow u) i) (t + tl))).2))) (w1 := (wD g k L (und L ((rsz L u i (max (iS L (dNow u) i) (t + tl))).2)))) (wr := (hT g k 0 tp ++ (hR g k f0 ++ hI g))) ⟨hx, hb, hml, hown, hTB⟩ (c_Disk_undo l D g k L hL0 hL ((rsz L u i (max (iS L (dNow u) i) (t + tl))).2)) (cwV 0 hTB (gd_V k_435 k_436 k_437 k_52 k_438) rfl rfl rfl (by decide +kernel) ⟨Nat.le_of_ble_eq_true rfl, Nat.le_of_ble_eq_true rfl⟩) hK hP hD hA [5, 6, 7, 8, 9, 10] [0, 1, 2, 3, 4] rfl rfl (by decide) rfl (by decide) (by decide) 5 rfl rfl rfl hl.1 rfl (Nat.le_of_ble_eq_true rfl) d_Tree_write_80 ⟨Nat.zero_le _, Nat.zero_le _⟩ hS (fun H locs hP hD hS => ?_)
          have hP : va_P D cl5 (wT g k L (und L ((rsz L u i (max (iS L (dNow u) i) (t + tl))).2)) f0 0 tp) H := hP
          have hD : va_D A (wT g k L (und L ((rsz L u i (max (iS L (dNow u) i) (t + tl))).2)) f0 0 tp) := hD
          refine lv_bipush (v := (-4)) hx hb d_Tree_write_83 (by decide +kernel) ?_
          have hP9 : va_P D cl5 (wT g k L ((wrC L u i (nI t) tl tp).2) f0 0 tp) H := (by unfold wrC; rw [if_pos h24, if_neg (fun z => z.elim (nI_pos (by omega)) (nI_nlt h47 (by omega))), nI_clamp (by omega)]; unfold wrN; rw [if_neg (by rw [h73]; decide)]; exact hP)
          have hD9 : va_D A (wT g k L ((wrC L u i (nI t) tl tp).2) f0 0 tp) := (by unfold wrC; rw [if_pos h24, if_neg (fun z => z.elim (nI_pos (by omega)) (nI_nlt h47 (by omega))), nI_clamp (by omega)]; unfold wrN; rw [if_neg (by rw [h73]; decide)]; exact hD)
          exact W.iret (v := (-4)) hx hb hr (fun tt9 ht9 hW9 => ⟨⟨_, (), rfl, (by unfold wrC; rw [if_pos h24, if_neg (fun z => z.elim (nI_pos (by omega)) (nI_nlt h47 (by omega))), nI_clamp (by omega)]; unfold wrN; rw [if_neg (by rw [h73]; decide)]), ⟨by rw [ht9]; exact hP9, hD9⟩⟩, hS.F ht9⟩) hS.2.2 d_Tree_write_85
      · refine lv_bipush (v := (-8)) hx hb d_Tree_write_50 (by decide +kernel) ?_
        have hP9 : va_P D cl5 (wT g k L ((wrC L u i (nI t) tl tp).2) f0 0 tp) H := (by unfold wrC; rw [if_pos h24, if_pos (Or.inr (nI_lt h47 (by omega)))]; exact hP)
        have hD9 : va_D A (wT g k L ((wrC L u i (nI t) tl tp).2) f0 0 tp) := (by unfold wrC; rw [if_pos h24, if_pos (Or.inr (nI_lt h47 (by omega)))]; exact hD)
        exact W.iret (v := (-8)) hx hb hr (fun tt9 ht9 hW9 => ⟨⟨_, (), rfl, (by unfold wrC; rw [if_pos h24, if_pos (Or.inr (nI_lt h47 (by omega)))]), ⟨by rw [ht9]; exact hP9, hD9⟩⟩, hS.F ht9⟩) hS.2.2 d_Tree_write_52
  · refine lv_iload hx hb d_Tree_write_27 (lv_at hl 0 rfl) ?_
    have hP9 : va_P D cl5 (wT g k L ((wrC L u i x tl tp).2) f0 0 tp) H := (by unfold wrC; rw [if_neg h24]; exact hP)
    have hD9 : va_D A (wT g k L ((wrC L u i x tl tp).2) f0 0 tp) := (by unfold wrC; rw [if_neg h24]; exact hD)
    exact W.iret (v := kfl (iK L (dNow u) i) 1) hx hb hr (fun tt9 ht9 hW9 => ⟨⟨_, (), rfl, (by unfold wrC; rw [if_neg h24]), ⟨by rw [ht9]; exact hP9, hD9⟩⟩, hS.F ht9⟩) hS.2.2 d_Tree_write_29
theorem d_Tree_cut_0 : decode b_Tree_cut 0 = .ok (.iload_n 1, 1) := by decide +kernel
theorem d_Tree_cut_1 : decode b_Tree_cut 1 = .ok (.invokestatic 66, 3) := by decide +kernel
theorem d_Tree_cut_4 : decode b_Tree_cut 4 = .ok (.aload_n 0, 1) := by decide +kernel
theorem d_Tree_cut_5 : decode b_Tree_cut 5 = .ok (.iload_n 1, 1) := by decide +kernel
theorem d_Tree_cut_6 : decode b_Tree_cut 6 = .ok (.iconst 1, 1) := by decide +kernel
theorem d_Tree_cut_7 : decode b_Tree_cut 7 = .ok (.invokevirtual 72, 3) := by decide +kernel
theorem d_Tree_cut_10 : decode b_Tree_cut 10 = .ok (.istore_n 3, 1) := by decide +kernel
theorem d_Tree_cut_11 : decode b_Tree_cut 11 = .ok (.iload_n 3, 1) := by decide +kernel
theorem d_Tree_cut_12 : decode b_Tree_cut 12 = .ok (.ifCond .ge 5, 3) := by decide +kernel
theorem d_Tree_cut_15 : decode b_Tree_cut 15 = .ok (.iload_n 3, 1) := by decide +kernel
theorem d_Tree_cut_16 : decode b_Tree_cut 16 = .ok (.ireturn, 1) := by decide +kernel
theorem d_Tree_cut_17 : decode b_Tree_cut 17 = .ok (.iload_n 2, 1) := by decide +kernel
theorem d_Tree_cut_18 : decode b_Tree_cut 18 = .ok (.ifCond .lt 19, 3) := by decide +kernel
theorem d_Tree_cut_21 : decode b_Tree_cut 21 = .ok (.iload_n 2, 1) := by decide +kernel
theorem d_Tree_cut_22 : decode b_Tree_cut 22 = .ok (.aload_n 0, 1) := by decide +kernel
theorem d_Tree_cut_23 : decode b_Tree_cut 23 = .ok (.getfield 23, 3) := by decide +kernel
theorem d_Tree_cut_26 : decode b_Tree_cut 26 = .ok (.iload_n 1, 1) := by decide +kernel
theorem d_Tree_cut_27 : decode b_Tree_cut 27 = .ok (.invokevirtual 97, 3) := by decide +kernel
theorem d_Tree_cut_30 : decode b_Tree_cut 30 = .ok (.sipush 1024, 3) := by decide +kernel
theorem d_Tree_cut_33 : decode b_Tree_cut 33 = .ok (.iadd, 1) := by decide +kernel
theorem d_Tree_cut_34 : decode b_Tree_cut 34 = .ok (.if_icmp .le 6, 3) := by decide +kernel
theorem d_Tree_cut_37 : decode b_Tree_cut 37 = .ok (.bipush (-8), 2) := by decide +kernel
theorem d_Tree_cut_39 : decode b_Tree_cut 39 = .ok (.ireturn, 1) := by decide +kernel
theorem d_Tree_cut_40 : decode b_Tree_cut 40 = .ok (.aload_n 0, 1) := by decide +kernel
theorem d_Tree_cut_41 : decode b_Tree_cut 41 = .ok (.getfield 23, 3) := by decide +kernel
theorem d_Tree_cut_44 : decode b_Tree_cut 44 = .ok (.iload_n 1, 1) := by decide +kernel
theorem d_Tree_cut_45 : decode b_Tree_cut 45 = .ok (.iload_n 2, 1) := by decide +kernel
theorem d_Tree_cut_46 : decode b_Tree_cut 46 = .ok (.invokevirtual 105, 3) := by decide +kernel
theorem d_Tree_cut_49 : decode b_Tree_cut 49 = .ok (.ifCond .ne 13, 3) := by decide +kernel
theorem d_Tree_cut_52 : decode b_Tree_cut 52 = .ok (.aload_n 0, 1) := by decide +kernel
theorem d_Tree_cut_53 : decode b_Tree_cut 53 = .ok (.getfield 12, 3) := by decide +kernel
theorem d_Tree_cut_56 : decode b_Tree_cut 56 = .ok (.invokevirtual 87, 3) := by decide +kernel
theorem d_Tree_cut_59 : decode b_Tree_cut 59 = .ok (.bipush (-4), 2) := by decide +kernel
theorem d_Tree_cut_61 : decode b_Tree_cut 61 = .ok (.ireturn, 1) := by decide +kernel
theorem d_Tree_cut_62 : decode b_Tree_cut 62 = .ok (.aload_n 0, 1) := by decide +kernel
theorem d_Tree_cut_63 : decode b_Tree_cut 63 = .ok (.getfield 12, 3) := by decide +kernel
theorem d_Tree_cut_66 : decode b_Tree_cut 66 = .ok (.invokevirtual 48, 3) := by decide +kernel
theorem d_Tree_cut_69 : decode b_Tree_cut 69 = .ok (.iload_n 2, 1) := by decide +kernel
theorem d_Tree_cut_70 : decode b_Tree_cut 70 = .ok (.ireturn, 1) := by decide +kernel
set_option maxHeartbeats 4000000 in
set_option maxRecDepth 100000 in
theorem c_Tree_cut (l : Launch) (D : va_G) (g : Nat → Nat) (k : Nat → ClassId) (L : Nat) (hL0 : 96 ≤ L) (hL : L ≤ 768) (u : DSt) (f0 : Nat → Int32) (tl : Nat) (tp : Nat → Int32) (i : Nat) (x : Int32) (hi0 : i < 64) : MuI l y_Tree_cut w_Tree_cut ({ frames := 8, cells := 0, slots := 0, locals := 179 }) [.ref (g 9), .int (nI i), .int (x)] D cl5 (tyC k) (wT g k L u f0 tl tp) (wT g k L ((ctC L u i x).2) f0 tl tp) ((ctC L u i x).1) := by
  intro sz
  refine Met.ofW (cc := b_Tree_cut) (maxL := 4) (ret := (some .int)) (by decide) rfl ?_
  intro p e s m args below meth c s₁ B hml hv
  obtain ⟨rfl, hsz, hP, hK, hD0⟩ := hv
  have hx := B.exec
  have hb := B.bytes
  have hr := B.returns
  have hts := atoms_spec (ws := w_Tree_cut) B.pre
  have hTB : ∀ w ∈ lw_tb, w.before _ s = true := fun w h => hts w (List.mem_cons_of_mem _ h)
  have hown : s.vm.findClass R_Tree = some m.cls := findClass_of_methodNamed B.named
  have hlocks := B.notSynchronized
  subst hsz
  have hD := hD0.self (sz := s.heap.size)
  generalize hAe : va_A (wT g k L u f0 tl tp) s.heap.size = A at hD ⊢
  have hA : ∀ q : Nat, s.heap.size ≤ q → A q := fun q h => by rw [← hAe]; exact Or.inr h
  have hS : va_S A s.heap s.heap [] := va_S.rf
  have hl := lv_entry ([.ref (g 9), .int (nI i), .int (x)]) (n := 4) (Nat.le_of_ble_eq_true rfl)
  rw [lg_entry_eq]
  generalize (lg_sl ([.ref (g 9), .int (nI i), .int (x)]) ++ List.replicate (4 - (lg_sl ([.ref (g 9), .int (nI i), .int (x)])).length) Slot.unset).toArray = ls at hl ⊢
  have hl : lv_has ls 4 [(0, .ref (g 9)), (1, .int (nI i)), (2, .int (x))] := hl
  refine lv_iload_n hx hb d_Tree_cut_0 rfl (lv_at hl 1 rfl) ?_
  refine gz_roSv (As := [.int (nI i)]) (rest := []) ⟨hx, hb, hml, hown, hTB⟩ (c_Tree_checkInode l i (by omega)) (cwS 1 hTB (gd_S k_327 k_328 k_51 k_329) rfl rfl rfl (by decide +kernel) ⟨Nat.le_of_ble_eq_true rfl, Nat.le_of_ble_eq_true rfl⟩) hP rfl hl.1 rfl (Nat.le_of_ble_eq_true rfl) d_Tree_cut_1 ⟨Nat.zero_le _, Nat.zero_le _⟩ hS (fun H locs hP hS => ?_)
  refine lv_aload_n hx hb d_Tree_cut_4 rfl (lv_at hl 0 rfl) ?_
  refine lv_iload_n hx hb d_Tree_cut_5 rfl (lv_at hl 1 rfl) ?_
  refine lv_iconst (v := nI 1) hx hb d_Tree_cut_6 (by decide +kernel) ?_
  refine gz_roV (As := [.int (nI i), .int (nI 1)]) (rest := []) (wc := (wT g k L u f0 tl tp)) ⟨hx, hb, hml, hown, hTB⟩ (c_Tree_kindFault l D g k L hL0 hL u f0 tl tp i 1 (by decide)) (cwV 2 hTB (gd_V k_336 k_338 k_8 k_51 k_339) rfl rfl rfl (by decide +kernel) ⟨Nat.le_of_ble_eq_true rfl, Nat.le_of_ble_eq_true rfl⟩) hK hP [0, 1, 2, 3, 4, 5, 6, 7, 8, 9, 10] rfl 0 rfl rfl rfl hl.1 rfl (Nat.le_of_ble_eq_true rfl) d_Tree_cut_7 ⟨Nat.zero_le _, Nat.zero_le _⟩ hS (fun H locs hP hS => ?_)
  refine lv_istore_n (lv' := [(3, .int (kfl (iK L (dNow u) i) 1)), (0, .ref (g 9)), (1, .int (nI i)), (2, .int (x))]) hx hb d_Tree_cut_10 rfl hl (by decide) rfl (fun ls hl => ?_)
  refine lv_iload_n hx hb d_Tree_cut_11 rfl (lv_at hl 0 rfl) ?_
  refine lv_if_ge (tgt := 17) hx hb d_Tree_cut_12 (by decide) (fun h12 => ?_) (fun h12 => ?_)
  · refine lv_iload_n hx hb d_Tree_cut_17 rfl (lv_at hl 3 rfl) ?_
    refine lv_if_lt (tgt := 37) hx hb d_Tree_cut_18 (by decide) (fun h18 => ?_) (fun h18 => ?_)
    · refine lv_bipush (v := (-8)) hx hb d_Tree_cut_37 (by decide +kernel) ?_
      have hP9 : va_P D cl5 (wT g k L ((ctC L u i x).2) f0 tl tp) H := (by unfold ctC; rw [if_pos h12, if_pos (Or.inl h18)]; exact hP)
      have hD9 : va_D A (wT g k L ((ctC L u i x).2) f0 tl tp) := (by unfold ctC; rw [if_pos h12, if_pos (Or.inl h18)]; exact hD)
      exact W.iret (v := (-8)) hx hb hr (fun tt9 ht9 hW9 => ⟨⟨_, (), rfl, (by unfold ctC; rw [if_pos h12, if_pos (Or.inl h18)]), ⟨by rw [ht9]; exact hP9, hD9⟩⟩, hS.F ht9⟩) hS.2.2 d_Tree_cut_39
    · obtain ⟨t, ht, rfl⟩ := nI_of h18
      refine lv_iload_n hx hb d_Tree_cut_21 rfl (lv_at hl 3 rfl) ?_
      refine lv_aload_n hx hb d_Tree_cut_22 rfl (lv_at hl 1 rfl) ?_
      refine va_get (D := D) (ci := 3) (v := .ref (g 6)) (C := R_Tree) (T := T_Tree) (N := 5) hx hb hTB in_Tree hown hK hP 0 rfl rfl 1 (by decide) (hTB _ k_196) (fun _ h9 => h9) rfl d_Tree_cut_23 ?_
      refine lv_iload_n hx hb d_Tree_cut_26 rfl (lv_at hl 2 rfl) ?_
      refine gz_roV (As := [.int (nI i)]) (rest := [.int (nI t)]) (wc := (wI g k L u)) ⟨hx, hb, hml, hown, hTB⟩ (c_Inodes_size l D g k L hL0 hL u i) (cwV 1 hTB (gd_V k_462 k_353 k_354 k_54 k_355) rfl rfl rfl (by decide +kernel) ⟨Nat.le_of_ble_eq_true rfl, Nat.le_of_ble_eq_true rfl⟩) hK hP [4, 5, 6, 7, 8, 9, 10] rfl 4 rfl rfl rfl hl.1 rfl (Nat.le_of_ble_eq_true rfl) d_Tree_cut_27 ⟨Nat.zero_le _, Nat.zero_le _⟩ hS (fun H locs hP hS => ?_)
      have := iS_lt L (dNow u) i
      refine lv_sipush (v := nI 1024) hx hb d_Tree_cut_30 (by decide +kernel) ?_
      refine gz_iadd hx hb d_Tree_cut_33 ?_
      refine gz_icmp_le (tgt := 40) hx hb d_Tree_cut_34 (by decide) (by omega) (by omega) (fun h34 => ?_) (fun h34 => ?_)
      · refine lv_aload_n hx hb d_Tree_cut_40 rfl (lv_at hl 1 rfl) ?_
        refine va_get (D := D) (ci := 3) (v := .ref (g 6)) (C := R_Tree) (T := T_Tree) (N := 5) hx hb hTB in_Tree hown hK hP 0 rfl rfl 1 (by decide) (hTB _ k_196) (fun _ h9 => h9) rfl d_Tree_cut_41 ?_
        refine lv_iload_n hx hb d_Tree_cut_44 rfl (lv_at hl 2 rfl) ?_
        refine lv_iload_n hx hb d_Tree_cut_45 rfl (lv_at hl 3 rfl) ?_
        refine gz_muI (As := [.int (nI i), .int (nI t)]) (rest := []) (wc := (wI g k L u)) (w1 := (wI g k L ((rsz L u i t).2))) (wr := (hT g k tl tp ++ hR g k f0)) ⟨hx, hb, hml, hown, hTB⟩ (c_Inodes_resize l D g k L hL0 hL u i t (by omega)) (cwV 2 hTB (gd_V k_466 k_392 k_393 k_54 k_394) rfl rfl rfl (by decide +kernel) ⟨Nat.le_of_ble_eq_true rfl, Nat.le_of_ble_eq_true rfl⟩) hK hP hD hA [4, 5, 6, 7, 8, 9, 10] [0, 1, 2, 3] rfl rfl (by decide) rfl (by decide) (by decide) 4 rfl rfl rfl hl.1 rfl (Nat.le_of_ble_eq_true rfl) d_Tree_cut_46 ⟨Nat.zero_le _, Nat.zero_le _⟩ hS (fun H locs hP hD hS => ?_)
        have hP : va_P D cl5 (wT g k L ((rsz L u i t).2) f0 tl tp) H := hP
        have hD : va_D A (wT g k L ((rsz L u i t).2) f0 tl tp) := hD
        refine gz_ifz_ne (tgt := 62) hx hb d_Tree_cut_49 (by decide) (fun h49 => ?_) (fun h49 => ?_)
        · refine lv_aload_n hx hb d_Tree_cut_62 rfl (lv_at hl 1 rfl) ?_
          refine va_get (D := D) (ci := 3) (v := .ref (g 0)) (C := R_Tree) (T := T_Tree) (N := 5) hx hb hTB in_Tree hown hK hP 0 rfl rfl 0 (by decide) (hTB _ k_195) (fun _ h9 => h9) rfl d_Tree_cut_63 ?_
          refine gz_muV (As := []) (rest := []) (wc := (wD g k L ((rsz L u i t).2))) (w1 := (wD g k L (stl L ((rsz L u i t).2)))) (wr := (hT g k tl tp ++ (hR g k f0 ++ hI g))) ⟨hx, hb, hml, hown, hTB⟩ (c_Disk_settle l D g k L hL0 hL ((rsz L u i t).2)) (cwV 0 hTB (gd_V k_156 k_157 k_158 k_52 k_159) rfl rfl rfl (by decide +kernel) ⟨Nat.le_of_ble_eq_true rfl, Nat.le_of_ble_eq_true rfl⟩) hK hP hD hA [5, 6, 7, 8, 9, 10] [0, 1, 2, 3, 4] rfl rfl (by decide) rfl (by decide) (by decide) 5 rfl rfl rfl hl.1 rfl (Nat.le_of_ble_eq_true rfl) d_Tree_cut_66 ⟨Nat.zero_le _, Nat.zero_le _⟩ hS (fun H locs hP hD hS => ?_)
          have hP : va_P D cl5 (wT g k L (stl L ((rsz L u i t).2)) f0 tl tp) H := hP
          have hD : va_D A (wT g k L (stl L ((rsz L u i t).2)) f0 tl tp) := hD
          refine lv_iload_n hx hb d_Tree_cut_69 rfl (lv_at hl 3 rfl) ?_
          have hP9 : va_P D cl5 (wT g k L ((ctC L u i (nI t)).2) f0 tl tp) H := (by unfold ctC; rw [if_pos h12, if_neg (fun z => z.elim (nI_pos (by omega)) (nI_nlt h34 (by omega))), nI_clamp (by omega)]; unfold ctN; rw [if_pos h49]; exact hP)
          have hD9 : va_D A (wT g k L ((ctC L u i (nI t)).2) f0 tl tp) := (by unfold ctC; rw [if_pos h12, if_neg (fun z => z.elim (nI_pos (by omega)) (nI_nlt h34 (by omega))), nI_clamp (by omega)]; unfold ctN; rw [if_pos h49]; exact hD)
          exact W.iret (v := nI t) hx hb hr (fun tt9 ht9 hW9 => ⟨⟨_, (), rfl, (by unfold ctC; rw [if_pos h12, if_neg (fun z => z.elim (nI_pos (by omega)) (nI_nlt h34 (by omega))), nI_clamp (by omega)]; unfold ctN; rw [if_pos h49]), ⟨by rw [ht9]; exact hP9, hD9⟩⟩, hS.F ht9⟩) hS.2.2 d_Tree_cut_70
        · refine lv_aload_n hx hb d_Tree_cut_52 rfl (lv_at hl 1 rfl) ?_
          refine va_get (D := D) (ci := 3) (v := .ref (g 0)) (C := R_Tree) (T := T_Tree) (N := 5) hx hb hTB in_Tree hown hK hP 0 rfl rfl 0 (by decide) (hTB _ k_195) (fun _ h9 => h9) rfl d_Tree_cut_53 ?_
          refine gz_muV (As := []) (rest := []) (wc := (wD g k L ((rsz L u i t).2))) (w1 := (wD g k L (und L ((rsz L u i t).2)))) (wr := (hT g k tl tp ++ (hR g k f0 ++ hI g))) ⟨hx, hb, hml, hown, hTB⟩ (c_Disk_undo l D g k L hL0 hL ((rsz L u i t).2)) (cwV 0 hTB (gd_V k_435 k_436 k_437 k_52 k_438) rfl rfl rfl (by decide +kernel) ⟨Nat.le_of_ble_eq_true rfl, Nat.le_of_ble_eq_true rfl⟩) hK hP hD hA [5, 6, 7, 8, 9, 10] [0, 1, 2, 3, 4] rfl rfl (by decide) rfl (by decide) (by decide) 5 rfl rfl rfl hl.1 rfl (Nat.le_of_ble_eq_true rfl) d_Tree_cut_56 ⟨Nat.zero_le _, Nat.zero_le _⟩ hS (fun H locs hP hD hS => ?_)
          have hP : va_P D cl5 (wT g k L (und L ((rsz L u i t).2)) f0 tl tp) H := hP
          have hD : va_D A (wT g k L (und L ((rsz L u i t).2)) f0 tl tp) := hD
          refine lv_bipush (v := (-4)) hx hb d_Tree_cut_59 (by decide +kernel) ?_
          have hP9 : va_P D cl5 (wT g k L ((ctC L u i (nI t)).2) f0 tl tp) H := (by unfold ctC; rw [if_pos h12, if_neg (fun z => z.elim (nI_pos (by omega)) (nI_nlt h34 (by omega))), nI_clamp (by omega)]; unfold ctN; rw [if_neg (by rw [h49]; decide)]; exact hP)
          have hD9 : va_D A (wT g k L ((ctC L u i (nI t)).2) f0 tl tp) := (by unfold ctC; rw [if_pos h12, if_neg (fun z => z.elim (nI_pos (by omega)) (nI_nlt h34 (by omega))), nI_clamp (by omega)]; unfold ctN; rw [if_neg (by rw [h49]; decide)]; exact hD)
          exact W.iret (v := (-4)) hx hb hr (fun tt9 ht9 hW9 => ⟨⟨_, (), rfl, (by unfold ctC; rw [if_pos h12, if_neg (fun z => z.elim (nI_pos (by omega)) (nI_nlt h34 (by omega))), nI_clamp (by omega)]; unfold ctN; rw [if_neg (by rw [h49]; decide)]), ⟨by rw [ht9]; exact hP9, hD9⟩⟩, hS.F ht9⟩) hS.2.2 d_Tree_cut_61
      · refine lv_bipush (v := (-8)) hx hb d_Tree_cut_37 (by decide +kernel) ?_
        have hP9 : va_P D cl5 (wT g k L ((ctC L u i (nI t)).2) f0 tl tp) H := (by unfold ctC; rw [if_pos h12, if_pos (Or.inr (nI_lt h34 (by omega)))]; exact hP)
        have hD9 : va_D A (wT g k L ((ctC L u i (nI t)).2) f0 tl tp) := (by unfold ctC; rw [if_pos h12, if_pos (Or.inr (nI_lt h34 (by omega)))]; exact hD)
        exact W.iret (v := (-8)) hx hb hr (fun tt9 ht9 hW9 => ⟨⟨_, (), rfl, (by unfold ctC; rw [if_pos h12, if_pos (Or.inr (nI_lt h34 (by omega)))]), ⟨by rw [ht9]; exact hP9, hD9⟩⟩, hS.F ht9⟩) hS.2.2 d_Tree_cut_39
  · refine lv_iload_n hx hb d_Tree_cut_15 rfl (lv_at hl 0 rfl) ?_
    have hP9 : va_P D cl5 (wT g k L ((ctC L u i x).2) f0 tl tp) H := (by unfold ctC; rw [if_neg h12]; exact hP)
    have hD9 : va_D A (wT g k L ((ctC L u i x).2) f0 tl tp) := (by unfold ctC; rw [if_neg h12]; exact hD)
    exact W.iret (v := kfl (iK L (dNow u) i) 1) hx hb hr (fun tt9 ht9 hW9 => ⟨⟨_, (), rfl, (by unfold ctC; rw [if_neg h12]), ⟨by rw [ht9]; exact hP9, hD9⟩⟩, hS.F ht9⟩) hS.2.2 d_Tree_cut_16
theorem d_Tree_read_0 : decode b_Tree_read 0 = .ok (.iload_n 1, 1) := by decide +kernel
theorem d_Tree_read_1 : decode b_Tree_read 1 = .ok (.invokestatic 66, 3) := by decide +kernel
theorem d_Tree_read_4 : decode b_Tree_read 4 = .ok (.iload_n 2, 1) := by decide +kernel
theorem d_Tree_read_5 : decode b_Tree_read 5 = .ok (.ifCond .lt 15, 3) := by decide +kernel
theorem d_Tree_read_8 : decode b_Tree_read 8 = .ok (.iload_n 2, 1) := by decide +kernel
theorem d_Tree_read_9 : decode b_Tree_read 9 = .ok (.aload_n 0, 1) := by decide +kernel
theorem d_Tree_read_10 : decode b_Tree_read 10 = .ok (.getfield 23, 3) := by decide +kernel
theorem d_Tree_read_13 : decode b_Tree_read 13 = .ok (.iload_n 1, 1) := by decide +kernel
theorem d_Tree_read_14 : decode b_Tree_read 14 = .ok (.invokevirtual 97, 3) := by decide +kernel
theorem d_Tree_read_17 : decode b_Tree_read 17 = .ok (.if_icmp .lt 13, 3) := by decide +kernel
theorem d_Tree_read_20 : decode b_Tree_read 20 = .ok (.new 115, 3) := by decide +kernel
theorem d_Tree_read_23 : decode b_Tree_read 23 = .ok (.dup, 1) := by decide +kernel
theorem d_Tree_read_24 : decode b_Tree_read 24 = .ok (.ldc 117, 2) := by decide +kernel
theorem d_Tree_read_26 : decode b_Tree_read 26 = .ok (.invokespecial 119, 3) := by decide +kernel
theorem d_Tree_read_29 : decode b_Tree_read 29 = .ok (.athrow, 1) := by decide +kernel
theorem d_Tree_read_30 : decode b_Tree_read 30 = .ok (.lconst 0, 1) := by decide +kernel
theorem d_Tree_read_31 : decode b_Tree_read 31 = .ok (.lstore_n 3, 1) := by decide +kernel
theorem d_Tree_read_32 : decode b_Tree_read 32 = .ok (.iconst 0, 1) := by decide +kernel
theorem d_Tree_read_33 : decode b_Tree_read 33 = .ok (.istore 5, 2) := by decide +kernel
theorem d_Tree_read_35 : decode b_Tree_read 35 = .ok (.iload 5, 2) := by decide +kernel
theorem d_Tree_read_37 : decode b_Tree_read 37 = .ok (.bipush 8, 2) := by decide +kernel
theorem d_Tree_read_39 : decode b_Tree_read 39 = .ok (.if_icmp .ge 38, 3) := by decide +kernel
theorem d_Tree_read_42 : decode b_Tree_read 42 = .ok (.lload_n 3, 1) := by decide +kernel
theorem d_Tree_read_43 : decode b_Tree_read 43 = .ok (.aload_n 0, 1) := by decide +kernel
theorem d_Tree_read_44 : decode b_Tree_read 44 = .ok (.getfield 12, 3) := by decide +kernel
theorem d_Tree_read_47 : decode b_Tree_read 47 = .ok (.aload_n 0, 1) := by decide +kernel
theorem d_Tree_read_48 : decode b_Tree_read 48 = .ok (.getfield 23, 3) := by decide +kernel
theorem d_Tree_read_51 : decode b_Tree_read 51 = .ok (.iload_n 1, 1) := by decide +kernel
theorem d_Tree_read_52 : decode b_Tree_read 52 = .ok (.iload_n 2, 1) := by decide +kernel
theorem d_Tree_read_53 : decode b_Tree_read 53 = .ok (.iload 5, 2) := by decide +kernel
theorem d_Tree_read_55 : decode b_Tree_read 55 = .ok (.iadd, 1) := by decide +kernel
theorem d_Tree_read_56 : decode b_Tree_read 56 = .ok (.invokevirtual 109, 3) := by decide +kernel
theorem d_Tree_read_59 : decode b_Tree_read 59 = .ok (.invokevirtual 120, 3) := by decide +kernel
theorem d_Tree_read_62 : decode b_Tree_read 62 = .ok (.i2l, 1) := by decide +kernel
theorem d_Tree_read_63 : decode b_Tree_read 63 = .ok (.bipush 8, 2) := by decide +kernel
theorem d_Tree_read_65 : decode b_Tree_read 65 = .ok (.iload 5, 2) := by decide +kernel
theorem d_Tree_read_67 : decode b_Tree_read 67 = .ok (.imul, 1) := by decide +kernel
theorem d_Tree_read_68 : decode b_Tree_read 68 = .ok (.lshl, 1) := by decide +kernel
theorem d_Tree_read_69 : decode b_Tree_read 69 = .ok (.lor, 1) := by decide +kernel
theorem d_Tree_read_70 : decode b_Tree_read 70 = .ok (.lstore_n 3, 1) := by decide +kernel
theorem d_Tree_read_71 : decode b_Tree_read 71 = .ok (.iinc 5 1, 3) := by decide +kernel
theorem d_Tree_read_74 : decode b_Tree_read 74 = .ok (.goto (-39), 3) := by decide +kernel
theorem d_Tree_read_77 : decode b_Tree_read 77 = .ok (.lload_n 3, 1) := by decide +kernel
theorem d_Tree_read_78 : decode b_Tree_read 78 = .ok (.lreturn, 1) := by decide +kernel
set_option maxHeartbeats 4000000 in
set_option maxRecDepth 100000 in
theorem c_Tree_read (l : Launch) (D : va_G) (g : Nat → Nat) (k : Nat → ClassId) (L : Nat) (hL0 : 96 ≤ L) (hL : L ≤ 768) (u : DSt) (f0 : Nat → Int32) (tl : Nat) (tp : Nat → Int32) (i t : Nat) (hi0 : i < 64) (ht0 : t < iS L (dNow u) i) : RoL l y_Tree_read w_Tree_read ({ frames := 8, cells := 0, slots := 0, locals := 130 }) [.ref (g 9), .int (nI i), .int (nI t)] (RoP D cl5 (tyC k) (wT g k L u f0 tl tp)) (rdG L (dNow u) i t 8) := by
  refine Met.ofW (cc := b_Tree_read) (maxL := 6) (ret := (some .long)) (by decide) rfl ?_
  intro p e s m args below meth c s₁ B hml hv
  obtain ⟨rfl, hP, hK⟩ := hv
  have hx := B.exec
  have hb := B.bytes
  have hr := B.returns
  have hts := atoms_spec (ws := w_Tree_read) B.pre
  have hTB : ∀ w ∈ lw_tb, w.before _ s = true := fun w h => hts w (List.mem_cons_of_mem _ h)
  have hown : s.vm.findClass R_Tree = some m.cls := findClass_of_methodNamed B.named
  have hlocks := B.notSynchronized
  have hS : va_S (fun _ => False) s.heap s.heap [] := va_S.rf
  have hl := lv_entry ([.ref (g 9), .int (nI i), .int (nI t)]) (n := 6) (Nat.le_of_ble_eq_true rfl)
  rw [lg_entry_eq]
  generalize (lg_sl ([.ref (g 9), .int (nI i), .int (nI t)]) ++ List.replicate (6 - (lg_sl ([.ref (g 9), .int (nI i), .int (nI t)])).length) Slot.unset).toArray = ls at hl ⊢
  have hl : lv_has ls 6 [(0, .ref (g 9)), (1, .int (nI i)), (2, .int (nI t))] := hl
  have hsz0 := iS_lt L (dNow u) i
  refine lv_iload_n hx hb d_Tree_read_0 rfl (lv_at hl 1 rfl) ?_
  refine gz_roSv (As := [.int (nI i)]) (rest := []) ⟨hx, hb, hml, hown, hTB⟩ (c_Tree_checkInode l i (by omega)) (cwS 1 hTB (gd_S k_327 k_328 k_51 k_329) rfl rfl rfl (by decide +kernel) ⟨Nat.le_of_ble_eq_true rfl, Nat.le_of_ble_eq_true rfl⟩) hP rfl hl.1 rfl (Nat.le_of_ble_eq_true rfl) d_Tree_read_1 ⟨Nat.zero_le _, Nat.zero_le _⟩ hS (fun H locs hP hS => ?_)
  refine lv_iload_n hx hb d_Tree_read_4 rfl (lv_at hl 2 rfl) ?_
  refine gz_if_lt (tgt := 20) hx hb d_Tree_read_5 (by decide) (by omega) ?_
  refine lv_iload_n hx hb d_Tree_read_8 rfl (lv_at hl 2 rfl) ?_
  refine lv_aload_n hx hb d_Tree_read_9 rfl (lv_at hl 0 rfl) ?_
  refine va_get (D := D) (ci := 3) (v := .ref (g 6)) (C := R_Tree) (T := T_Tree) (N := 5) hx hb hTB in_Tree hown hK hP 0 rfl rfl 1 (by decide) (hTB _ k_196) (fun _ h9 => h9) rfl d_Tree_read_10 ?_
  refine lv_iload_n hx hb d_Tree_read_13 rfl (lv_at hl 1 rfl) ?_
  refine gz_roV (As := [.int (nI i)]) (rest := [.int (nI t)]) (wc := (wI g k L u)) ⟨hx, hb, hml, hown, hTB⟩ (c_Inodes_size l D g k L hL0 hL u i) (cwV 1 hTB (gd_V k_462 k_353 k_354 k_54 k_355) rfl rfl rfl (by decide +kernel) ⟨Nat.le_of_ble_eq_true rfl, Nat.le_of_ble_eq_true rfl⟩) hK hP [4, 5, 6, 7, 8, 9, 10] rfl 4 rfl rfl rfl hl.1 rfl (Nat.le_of_ble_eq_true rfl) d_Tree_read_14 ⟨Nat.zero_le _, Nat.zero_le _⟩ hS (fun H locs hP hS => ?_)
  have := iS_lt L (dNow u) i
  refine gz_icmp_lt (tgt := 30) hx hb d_Tree_read_17 (by decide) (by omega) (by omega) (fun h17 => ?_) (fun h17 => ?_)
  · refine lv_lconst (v := 0) hx hb d_Tree_read_30 (by decide +kernel) ?_
    refine lv_lstore_n (lv' := [(3, .long (0)), (0, .ref (g 9)), (1, .int (nI i)), (2, .int (nI t))]) hx hb d_Tree_read_31 rfl hl (by decide) rfl (fun ls hl => ?_)
    refine lv_iconst (v := nI 0) hx hb d_Tree_read_32 (by decide +kernel) ?_
    refine lv_istore (lv' := [(5, .int (nI 0)), (3, .long (0)), (0, .ref (g 9)), (1, .int (nI i)), (2, .int (nI t))]) hx hb d_Tree_read_33 hl (by decide) rfl (fun ls hl => ?_)
    refine gz_loop 35 (fun (zz : Nat) H locs ls => match zz with | j => va_P D cl5 (wT g k L u f0 tl tp) H ∧ va_S (fun _ => False) s.heap H locs ∧ lv_has ls 6 [(0, .ref (g 9)), (1, .int (nI i)), (2, .int (nI t)), (3, .long (rdG L (dNow u) i t j)), (5, .int (nI j))] ∧ (j ≤ 8)) (fun (zz : Nat) => match zz with | j => 8 - j) (fun zz H locs ls hI ih35 => ?_) (0) ⟨hP, hS, lv_sub hl [2, 3, 4, 1, 0] rfl, (by omega)⟩
    obtain ⟨j, rfl⟩ : ∃ z, z = zz := ⟨_, rfl⟩
    obtain ⟨hP, hS, hl, hj1⟩ := hI
    refine lv_iload hx hb d_Tree_read_35 (lv_at hl 4 rfl) ?_
    refine lv_bipush (v := nI 8) hx hb d_Tree_read_37 (by decide +kernel) ?_
    refine gz_icmp_ge (tgt := 77) hx hb d_Tree_read_39 (by decide) (by omega) (by omega) (fun h39 => ?_) (fun h39 => ?_)
    · have hj8 : j = 8 := by omega
      refine lv_lload_n hx hb d_Tree_read_77 rfl (lv_at hl 3 rfl) ?_
      exact W.lret (v := rdG L (dNow u) i t j) hx hb hr (fun tt9 ht9 hW9 => ⟨⟨_, (), rfl, (by rw [hj8]), trivial⟩, hS.F ht9⟩) hS.2.2 d_Tree_read_78
    · refine lv_lload_n hx hb d_Tree_read_42 rfl (lv_at hl 3 rfl) ?_
      refine lv_aload_n hx hb d_Tree_read_43 rfl (lv_at hl 0 rfl) ?_
      refine va_get (D := D) (ci := 3) (v := .ref (g 0)) (C := R_Tree) (T := T_Tree) (N := 5) hx hb hTB in_Tree hown hK hP 0 rfl rfl 0 (by decide) (hTB _ k_195) (fun _ h9 => h9) rfl d_Tree_read_44 ?_
      refine lv_aload_n hx hb d_Tree_read_47 rfl (lv_at hl 0 rfl) ?_
      refine va_get (D := D) (ci := 3) (v := .ref (g 6)) (C := R_Tree) (T := T_Tree) (N := 5) hx hb hTB in_Tree hown hK hP 0 rfl rfl 1 (by decide) (hTB _ k_196) (fun _ h9 => h9) rfl d_Tree_read_48 ?_
      refine lv_iload_n hx hb d_Tree_read_51 rfl (lv_at hl 1 rfl) ?_
      refine lv_iload_n hx hb d_Tree_read_52 rfl (lv_at hl 2 rfl) ?_
      refine lv_iload hx hb d_Tree_read_53 (lv_at hl 4 rfl) ?_
      refine gz_iadd hx hb d_Tree_read_55 ?_
      refine gz_roV (As := [.int (nI i), .int (nI (t + j))]) (rest := [.ref (g 0), .long (rdG L (dNow u) i t j)]) (wc := (wI g k L u)) ⟨hx, hb, hml, hown, hTB⟩ (c_Inodes_placeOf l D g k L hL0 hL u i (t + j) (by omega)) (cwV 2 hTB (gd_V k_467 k_362 k_363 k_54 k_364) rfl rfl rfl (by decide +kernel) ⟨Nat.le_of_ble_eq_true rfl, Nat.le_of_ble_eq_true rfl⟩) hK hP [4, 5, 6, 7, 8, 9, 10] rfl 4 rfl rfl rfl hl.1 rfl (Nat.le_of_ble_eq_true rfl) d_Tree_read_56 ⟨Nat.zero_le _, Nat.zero_le _⟩ hS (fun H locs hP hS => ?_)
      refine gz_roV (As := [.int (plc L (dNow u) i (t + j))]) (rest := [.long (rdG L (dNow u) i t j)]) (wc := (wD g k L u)) ⟨hx, hb, hml, hown, hTB⟩ (c_Disk_byteAt l D g k L hL0 hL u (plc L (dNow u) i (t + j))) (cwV 1 hTB (gd_V k_500 k_345 k_346 k_52 k_347) rfl rfl rfl (by decide +kernel) ⟨Nat.le_of_ble_eq_true rfl, Nat.le_of_ble_eq_true rfl⟩) hK hP [5, 6, 7, 8, 9, 10] rfl 5 rfl rfl rfl hl.1 rfl (Nat.le_of_ble_eq_true rfl) d_Tree_read_59 ⟨Nat.zero_le _, Nat.zero_le _⟩ hS (fun H locs hP hS => ?_)
      have := bN_lt L (dNow u) (plc L (dNow u) i (t + j))
      refine lv_i2l hx hb d_Tree_read_62 rfl ?_
      refine lv_bipush (v := nI 8) hx hb d_Tree_read_63 (by decide +kernel) ?_
      refine lv_iload hx hb d_Tree_read_65 (lv_at hl 4 rfl) ?_
      refine gz_imul hx hb d_Tree_read_67 ?_
      refine lv_lshl hx hb d_Tree_read_68 rfl ?_
      refine lv_lor hx hb d_Tree_read_69 ?_
      refine lv_lstore_n (lv' := [(3, .long ((rdG L (dNow u) i t j) ||| (((nI (bN L (dNow u) (plc L (dNow u) i (t + j)))).toInt64) <<< ((nI (8 * j)).toInt64 &&& 63)))), (0, .ref (g 9)), (1, .int (nI i)), (2, .int (nI t)), (5, .int (nI j))]) hx hb d_Tree_read_70 rfl hl (by decide) rfl (fun ls hl => ?_)
      refine lv_iinc (v := nI (j + 1)) (lv' := [(5, .int (nI (j + 1))), (3, .long ((rdG L (dNow u) i t j) ||| (((nI (bN L (dNow u) (plc L (dNow u) i (t + j)))).toInt64) <<< ((nI (8 * j)).toInt64 &&& 63)))), (0, .ref (g 9)), (1, .int (nI i)), (2, .int (nI t))]) hx hb d_Tree_read_71 hl (k := 4) rfl (nI_add j 1) (by decide) rfl (fun ls hl => ?_)
      refine lv_goto (tgt := 35) hx hb d_Tree_read_74 (by decide) ?_
      exact ih35 (j + 1) _ _ _ (by first | omega | (dsimp only; omega)) ⟨hP, hS, lv_sub hl [2, 3, 4, 1, 0] rfl, (by omega)⟩
  · exact absurd h17 (by omega)
theorem d_Tree_move_0 : decode b_Tree_move 0 = .ok (.iload_n 1, 1) := by decide +kernel
theorem d_Tree_move_1 : decode b_Tree_move 1 = .ok (.invokestatic 66, 3) := by decide +kernel
theorem d_Tree_move_4 : decode b_Tree_move 4 = .ok (.iload_n 2, 1) := by decide +kernel
theorem d_Tree_move_5 : decode b_Tree_move 5 = .ok (.invokestatic 69, 3) := by decide +kernel
theorem d_Tree_move_8 : decode b_Tree_move 8 = .ok (.iload_n 3, 1) := by decide +kernel
theorem d_Tree_move_9 : decode b_Tree_move 9 = .ok (.invokestatic 66, 3) := by decide +kernel
theorem d_Tree_move_12 : decode b_Tree_move 12 = .ok (.iload 4, 2) := by decide +kernel
theorem d_Tree_move_14 : decode b_Tree_move 14 = .ok (.invokestatic 69, 3) := by decide +kernel
theorem d_Tree_move_17 : decode b_Tree_move 17 = .ok (.aload_n 0, 1) := by decide +kernel
theorem d_Tree_move_18 : decode b_Tree_move 18 = .ok (.iload_n 1, 1) := by decide +kernel
theorem d_Tree_move_19 : decode b_Tree_move 19 = .ok (.iload_n 2, 1) := by decide +kernel
theorem d_Tree_move_20 : decode b_Tree_move 20 = .ok (.invokevirtual 90, 3) := by decide +kernel
theorem d_Tree_move_23 : decode b_Tree_move 23 = .ok (.istore 5, 2) := by decide +kernel
theorem d_Tree_move_25 : decode b_Tree_move 25 = .ok (.iload 5, 2) := by decide +kernel
theorem d_Tree_move_27 : decode b_Tree_move 27 = .ok (.ifCond .ge 6, 3) := by decide +kernel
theorem d_Tree_move_30 : decode b_Tree_move 30 = .ok (.iload 5, 2) := by decide +kernel
theorem d_Tree_move_32 : decode b_Tree_move 32 = .ok (.ireturn, 1) := by decide +kernel
theorem d_Tree_move_33 : decode b_Tree_move 33 = .ok (.aload_n 0, 1) := by decide +kernel
theorem d_Tree_move_34 : decode b_Tree_move 34 = .ok (.iload_n 3, 1) := by decide +kernel
theorem d_Tree_move_35 : decode b_Tree_move 35 = .ok (.iconst 2, 1) := by decide +kernel
theorem d_Tree_move_36 : decode b_Tree_move 36 = .ok (.invokevirtual 72, 3) := by decide +kernel
theorem d_Tree_move_39 : decode b_Tree_move 39 = .ok (.istore 6, 2) := by decide +kernel
theorem d_Tree_move_41 : decode b_Tree_move 41 = .ok (.iload 6, 2) := by decide +kernel
theorem d_Tree_move_43 : decode b_Tree_move 43 = .ok (.ifCond .ge 6, 3) := by decide +kernel
theorem d_Tree_move_46 : decode b_Tree_move 46 = .ok (.iload 6, 2) := by decide +kernel
theorem d_Tree_move_48 : decode b_Tree_move 48 = .ok (.ireturn, 1) := by decide +kernel
theorem d_Tree_move_49 : decode b_Tree_move 49 = .ok (.iload_n 1, 1) := by decide +kernel
theorem d_Tree_move_50 : decode b_Tree_move 50 = .ok (.iload_n 3, 1) := by decide +kernel
theorem d_Tree_move_51 : decode b_Tree_move 51 = .ok (.if_icmp .ne 11, 3) := by decide +kernel
theorem d_Tree_move_54 : decode b_Tree_move 54 = .ok (.iload_n 2, 1) := by decide +kernel
theorem d_Tree_move_55 : decode b_Tree_move 55 = .ok (.iload 4, 2) := by decide +kernel
theorem d_Tree_move_57 : decode b_Tree_move 57 = .ok (.if_icmp .ne 5, 3) := by decide +kernel
theorem d_Tree_move_60 : decode b_Tree_move 60 = .ok (.iconst 0, 1) := by decide +kernel
theorem d_Tree_move_61 : decode b_Tree_move 61 = .ok (.ireturn, 1) := by decide +kernel
theorem d_Tree_move_62 : decode b_Tree_move 62 = .ok (.aload_n 0, 1) := by decide +kernel
theorem d_Tree_move_63 : decode b_Tree_move 63 = .ok (.getfield 32, 3) := by decide +kernel
theorem d_Tree_move_66 : decode b_Tree_move 66 = .ok (.iload 5, 2) := by decide +kernel
theorem d_Tree_move_68 : decode b_Tree_move 68 = .ok (.invokevirtual 93, 3) := by decide +kernel
theorem d_Tree_move_71 : decode b_Tree_move 71 = .ok (.istore 7, 2) := by decide +kernel
theorem d_Tree_move_73 : decode b_Tree_move 73 = .ok (.aload_n 0, 1) := by decide +kernel
theorem d_Tree_move_74 : decode b_Tree_move 74 = .ok (.getfield 32, 3) := by decide +kernel
theorem d_Tree_move_77 : decode b_Tree_move 77 = .ok (.iload_n 3, 1) := by decide +kernel
theorem d_Tree_move_78 : decode b_Tree_move 78 = .ok (.iload 4, 2) := by decide +kernel
theorem d_Tree_move_80 : decode b_Tree_move 80 = .ok (.invokevirtual 76, 3) := by decide +kernel
theorem d_Tree_move_83 : decode b_Tree_move 83 = .ok (.istore 8, 2) := by decide +kernel
theorem d_Tree_move_85 : decode b_Tree_move 85 = .ok (.aload_n 0, 1) := by decide +kernel
theorem d_Tree_move_86 : decode b_Tree_move 86 = .ok (.iload 7, 2) := by decide +kernel
theorem d_Tree_move_88 : decode b_Tree_move 88 = .ok (.iload_n 3, 1) := by decide +kernel
theorem d_Tree_move_89 : decode b_Tree_move 89 = .ok (.iload 8, 2) := by decide +kernel
theorem d_Tree_move_91 : decode b_Tree_move 91 = .ok (.invokevirtual 123, 3) := by decide +kernel
theorem d_Tree_move_94 : decode b_Tree_move 94 = .ok (.istore 6, 2) := by decide +kernel
theorem d_Tree_move_96 : decode b_Tree_move 96 = .ok (.iload 6, 2) := by decide +kernel
theorem d_Tree_move_98 : decode b_Tree_move 98 = .ok (.ifCond .ge 6, 3) := by decide +kernel
theorem d_Tree_move_101 : decode b_Tree_move 101 = .ok (.iload 6, 2) := by decide +kernel
theorem d_Tree_move_103 : decode b_Tree_move 103 = .ok (.ireturn, 1) := by decide +kernel
theorem d_Tree_move_104 : decode b_Tree_move 104 = .ok (.aload_n 0, 1) := by decide +kernel
theorem d_Tree_move_105 : decode b_Tree_move 105 = .ok (.getfield 32, 3) := by decide +kernel
theorem d_Tree_move_108 : decode b_Tree_move 108 = .ok (.iload 5, 2) := by decide +kernel
theorem d_Tree_move_110 : decode b_Tree_move 110 = .ok (.invokevirtual 127, 3) := by decide +kernel
theorem d_Tree_move_113 : decode b_Tree_move 113 = .ok (.iload 8, 2) := by decide +kernel
theorem d_Tree_move_115 : decode b_Tree_move 115 = .ok (.iconst (-1), 1) := by decide +kernel
theorem d_Tree_move_116 : decode b_Tree_move 116 = .ok (.if_icmp .eq 35, 3) := by decide +kernel
theorem d_Tree_move_119 : decode b_Tree_move 119 = .ok (.aload_n 0, 1) := by decide +kernel
theorem d_Tree_move_120 : decode b_Tree_move 120 = .ok (.getfield 23, 3) := by decide +kernel
theorem d_Tree_move_123 : decode b_Tree_move 123 = .ok (.aload_n 0, 1) := by decide +kernel
theorem d_Tree_move_124 : decode b_Tree_move 124 = .ok (.getfield 32, 3) := by decide +kernel
theorem d_Tree_move_127 : decode b_Tree_move 127 = .ok (.iload 8, 2) := by decide +kernel
theorem d_Tree_move_129 : decode b_Tree_move 129 = .ok (.invokevirtual 93, 3) := by decide +kernel
theorem d_Tree_move_132 : decode b_Tree_move 132 = .ok (.invokevirtual 130, 3) := by decide +kernel
theorem d_Tree_move_135 : decode b_Tree_move 135 = .ok (.aload_n 0, 1) := by decide +kernel
theorem d_Tree_move_136 : decode b_Tree_move 136 = .ok (.getfield 32, 3) := by decide +kernel
theorem d_Tree_move_139 : decode b_Tree_move 139 = .ok (.iload 8, 2) := by decide +kernel
theorem d_Tree_move_141 : decode b_Tree_move 141 = .ok (.iload 4, 2) := by decide +kernel
theorem d_Tree_move_143 : decode b_Tree_move 143 = .ok (.iload 7, 2) := by decide +kernel
theorem d_Tree_move_145 : decode b_Tree_move 145 = .ok (.invokevirtual 133, 3) := by decide +kernel
theorem d_Tree_move_148 : decode b_Tree_move 148 = .ok (.goto 28, 3) := by decide +kernel
theorem d_Tree_move_151 : decode b_Tree_move 151 = .ok (.aload_n 0, 1) := by decide +kernel
theorem d_Tree_move_152 : decode b_Tree_move 152 = .ok (.getfield 32, 3) := by decide +kernel
theorem d_Tree_move_155 : decode b_Tree_move 155 = .ok (.iload_n 3, 1) := by decide +kernel
theorem d_Tree_move_156 : decode b_Tree_move 156 = .ok (.iload 4, 2) := by decide +kernel
theorem d_Tree_move_158 : decode b_Tree_move 158 = .ok (.iload 7, 2) := by decide +kernel
theorem d_Tree_move_160 : decode b_Tree_move 160 = .ok (.invokevirtual 83, 3) := by decide +kernel
theorem d_Tree_move_163 : decode b_Tree_move 163 = .ok (.ifCond .ne 13, 3) := by decide +kernel
theorem d_Tree_move_166 : decode b_Tree_move 166 = .ok (.aload_n 0, 1) := by decide +kernel
theorem d_Tree_move_167 : decode b_Tree_move 167 = .ok (.getfield 12, 3) := by decide +kernel
theorem d_Tree_move_170 : decode b_Tree_move 170 = .ok (.invokevirtual 87, 3) := by decide +kernel
theorem d_Tree_move_173 : decode b_Tree_move 173 = .ok (.bipush (-4), 2) := by decide +kernel
theorem d_Tree_move_175 : decode b_Tree_move 175 = .ok (.ireturn, 1) := by decide +kernel
theorem d_Tree_move_176 : decode b_Tree_move 176 = .ok (.aload_n 0, 1) := by decide +kernel
theorem d_Tree_move_177 : decode b_Tree_move 177 = .ok (.getfield 12, 3) := by decide +kernel
theorem d_Tree_move_180 : decode b_Tree_move 180 = .ok (.invokevirtual 48, 3) := by decide +kernel
theorem d_Tree_move_183 : decode b_Tree_move 183 = .ok (.iconst 0, 1) := by decide +kernel
theorem d_Tree_move_184 : decode b_Tree_move 184 = .ok (.ireturn, 1) := by decide +kernel
set_option maxHeartbeats 4000000 in
set_option maxRecDepth 100000 in
theorem c_Tree_move (l : Launch) (D : va_G) (g : Nat → Nat) (k : Nat → ClassId) (L : Nat) (hL0 : 96 ≤ L) (hL : L ≤ 768) (u : DSt) (f0 : Nat → Int32) (tl : Nat) (tp : Nat → Int32) (d w d2 w2 : Nat) (hd0 : d < 64) (hw1 : 1 ≤ w) (hw2 : w ≤ 65535) (hd1 : d2 < 64) (hw3 : 1 ≤ w2) (hw4 : w2 ≤ 65535) : MuI l y_Tree_move w_Tree_move ({ frames := 8, cells := 0, slots := 0, locals := 204 }) [.ref (g 9), .int (nI d), .int (nI w), .int (nI d2), .int (nI w2)] D cl5 (tyC k) (wT g k L u f0 tl tp) (wT g k L ((mvC L u f0 d w d2 w2).2) (mv2 L (dNow u) f0 d w d2 w2) tl tp) ((mvC L u f0 d w d2 w2).1) := by
  intro sz
  refine Met.ofW (cc := b_Tree_move) (maxL := 9) (ret := (some .int)) (by decide) rfl ?_
  intro p e s m args below meth c s₁ B hml hv
  obtain ⟨rfl, hsz, hP, hK, hD0⟩ := hv
  have hx := B.exec
  have hb := B.bytes
  have hr := B.returns
  have hts := atoms_spec (ws := w_Tree_move) B.pre
  have hTB : ∀ w ∈ lw_tb, w.before _ s = true := fun w h => hts w (List.mem_cons_of_mem _ h)
  have hown : s.vm.findClass R_Tree = some m.cls := findClass_of_methodNamed B.named
  have hlocks := B.notSynchronized
  subst hsz
  have hD := hD0.self (sz := s.heap.size)
  generalize hAe : va_A (wT g k L u f0 tl tp) s.heap.size = A at hD ⊢
  have hA : ∀ q : Nat, s.heap.size ≤ q → A q := fun q h => by rw [← hAe]; exact Or.inr h
  have hS : va_S A s.heap s.heap [] := va_S.rf
  have hl := lv_entry ([.ref (g 9), .int (nI d), .int (nI w), .int (nI d2), .int (nI w2)]) (n := 9) (Nat.le_of_ble_eq_true rfl)
  rw [lg_entry_eq]
  generalize (lg_sl ([.ref (g 9), .int (nI d), .int (nI w), .int (nI d2), .int (nI w2)]) ++ List.replicate (9 - (lg_sl ([.ref (g 9), .int (nI d), .int (nI w), .int (nI d2), .int (nI w2)])).length) Slot.unset).toArray = ls at hl ⊢
  have hl : lv_has ls 9 [(0, .ref (g 9)), (1, .int (nI d)), (2, .int (nI w)), (3, .int (nI d2)), (4, .int (nI w2))] := hl
  refine lv_iload_n hx hb d_Tree_move_0 rfl (lv_at hl 1 rfl) ?_
  refine gz_roSv (As := [.int (nI d)]) (rest := []) ⟨hx, hb, hml, hown, hTB⟩ (c_Tree_checkInode l d (by omega)) (cwS 1 hTB (gd_S k_327 k_328 k_51 k_329) rfl rfl rfl (by decide +kernel) ⟨Nat.le_of_ble_eq_true rfl, Nat.le_of_ble_eq_true rfl⟩) hP rfl hl.1 rfl (Nat.le_of_ble_eq_true rfl) d_Tree_move_1 ⟨Nat.zero_le _, Nat.zero_le _⟩ hS (fun H locs hP hS => ?_)
  refine lv_iload_n hx hb d_Tree_move_4 rfl (lv_at hl 2 rfl) ?_
  refine gz_roSv (As := [.int (nI w)]) (rest := []) ⟨hx, hb, hml, hown, hTB⟩ (c_Tree_checkName l w (by omega) (by omega)) (cwS 1 hTB (gd_S k_331 k_332 k_51 k_333) rfl rfl rfl (by decide +kernel) ⟨Nat.le_of_ble_eq_true rfl, Nat.le_of_ble_eq_true rfl⟩) hP rfl hl.1 rfl (Nat.le_of_ble_eq_true rfl) d_Tree_move_5 ⟨Nat.zero_le _, Nat.zero_le _⟩ hS (fun H locs hP hS => ?_)
  refine lv_iload_n hx hb d_Tree_move_8 rfl (lv_at hl 3 rfl) ?_
  refine gz_roSv (As := [.int (nI d2)]) (rest := []) ⟨hx, hb, hml, hown, hTB⟩ (c_Tree_checkInode l d2 (by omega)) (cwS 1 hTB (gd_S k_327 k_328 k_51 k_329) rfl rfl rfl (by decide +kernel) ⟨Nat.le_of_ble_eq_true rfl, Nat.le_of_ble_eq_true rfl⟩) hP rfl hl.1 rfl (Nat.le_of_ble_eq_true rfl) d_Tree_move_9 ⟨Nat.zero_le _, Nat.zero_le _⟩ hS (fun H locs hP hS => ?_)
  refine lv_iload hx hb d_Tree_move_12 (lv_at hl 4 rfl) ?_
  refine gz_roSv (As := [.int (nI w2)]) (rest := []) ⟨hx, hb, hml, hown, hTB⟩ (c_Tree_checkName l w2 (by omega) (by omega)) (cwS 1 hTB (gd_S k_331 k_332 k_51 k_333) rfl rfl rfl (by decide +kernel) ⟨Nat.le_of_ble_eq_true rfl, Nat.le_of_ble_eq_true rfl⟩) hP rfl hl.1 rfl (Nat.le_of_ble_eq_true rfl) d_Tree_move_14 ⟨Nat.zero_le _, Nat.zero_le _⟩ hS (fun H locs hP hS => ?_)
  refine lv_aload_n hx hb d_Tree_move_17 rfl (lv_at hl 0 rfl) ?_
  refine lv_iload_n hx hb d_Tree_move_18 rfl (lv_at hl 1 rfl) ?_
  refine lv_iload_n hx hb d_Tree_move_19 rfl (lv_at hl 2 rfl) ?_
  refine gz_roV (As := [.int (nI d), .int (nI w)]) (rest := []) (wc := (wT g k L u f0 tl tp)) ⟨hx, hb, hml, hown, hTB⟩ (c_Tree_entryOrFault l D g k L hL0 hL u f0 tl tp d w (by omega)) (cwV 2 hTB (gd_V k_446 k_448 k_11 k_51 k_449) rfl rfl rfl (by decide +kernel) ⟨Nat.le_of_ble_eq_true rfl, Nat.le_of_ble_eq_true rfl⟩) hK hP [0, 1, 2, 3, 4, 5, 6, 7, 8, 9, 10] rfl 0 rfl rfl rfl hl.1 rfl (Nat.le_of_ble_eq_true rfl) d_Tree_move_20 ⟨Nat.zero_le _, Nat.zero_le _⟩ hS (fun H locs hP hS => ?_)
  refine lv_istore (lv' := [(5, .int (eof L (dNow u) d w)), (0, .ref (g 9)), (1, .int (nI d)), (2, .int (nI w)), (3, .int (nI d2)), (4, .int (nI w2))]) hx hb d_Tree_move_23 hl (by decide) rfl (fun ls hl => ?_)
  refine lv_iload hx hb d_Tree_move_25 (lv_at hl 0 rfl) ?_
  refine lv_if_ge (tgt := 33) hx hb d_Tree_move_27 (by decide) (fun h27 => ?_) (fun h27 => ?_)
  · refine lv_aload_n hx hb d_Tree_move_33 rfl (lv_at hl 1 rfl) ?_
    refine lv_iload_n hx hb d_Tree_move_34 rfl (lv_at hl 4 rfl) ?_
    refine lv_iconst (v := nI 2) hx hb d_Tree_move_35 (by decide +kernel) ?_
    refine gz_roV (As := [.int (nI d2), .int (nI 2)]) (rest := []) (wc := (wT g k L u f0 tl tp)) ⟨hx, hb, hml, hown, hTB⟩ (c_Tree_kindFault l D g k L hL0 hL u f0 tl tp d2 2 (by decide)) (cwV 2 hTB (gd_V k_336 k_338 k_8 k_51 k_339) rfl rfl rfl (by decide +kernel) ⟨Nat.le_of_ble_eq_true rfl, Nat.le_of_ble_eq_true rfl⟩) hK hP [0, 1, 2, 3, 4, 5, 6, 7, 8, 9, 10] rfl 0 rfl rfl rfl hl.1 rfl (Nat.le_of_ble_eq_true rfl) d_Tree_move_36 ⟨Nat.zero_le _, Nat.zero_le _⟩ hS (fun H locs hP hS => ?_)
    refine lv_istore (lv' := [(6, .int (kfl (iK L (dNow u) d2) 2)), (5, .int (eof L (dNow u) d w)), (0, .ref (g 9)), (1, .int (nI d)), (2, .int (nI w)), (3, .int (nI d2)), (4, .int (nI w2))]) hx hb d_Tree_move_39 hl (by decide) rfl (fun ls hl => ?_)
    refine lv_iload hx hb d_Tree_move_41 (lv_at hl 0 rfl) ?_
    refine lv_if_ge (tgt := 49) hx hb d_Tree_move_43 (by decide) (fun h43 => ?_) (fun h43 => ?_)
    · refine lv_iload_n hx hb d_Tree_move_49 rfl (lv_at hl 3 rfl) ?_
      refine lv_iload_n hx hb d_Tree_move_50 rfl (lv_at hl 5 rfl) ?_
      refine gz_icmp_ne (tgt := 62) hx hb d_Tree_move_51 (by decide) (by omega) (by omega) (fun h51 => ?_) (fun h51 => ?_)
      · have hne : ¬ (d = d2 ∧ w = w2) := fun z => h51 z.1
        refine lv_aload_n hx hb d_Tree_move_62 rfl (lv_at hl 2 rfl) ?_
        refine va_get (D := D) (ci := 3) (v := .ref (g 7)) (C := R_Tree) (T := T_Tree) (N := 5) hx hb hTB in_Tree hown hK hP 0 rfl rfl 2 (by decide) (hTB _ k_197) (fun _ h9 => h9) rfl d_Tree_move_63 ?_
        refine lv_iload hx hb d_Tree_move_66 (lv_at hl 1 rfl) ?_
        refine gz_roV (As := [.int (eof L (dNow u) d w)]) (rest := []) (wc := (wR g k L u f0)) ⟨hx, hb, hml, hown, hTB⟩ (c_Dirs_inodeOf l D g k L hL0 hL u f0 (eof L (dNow u) d w)) (cwV 1 hTB (gd_V k_450 k_451 k_452 k_55 k_453) rfl rfl rfl (by decide +kernel) ⟨Nat.le_of_ble_eq_true rfl, Nat.le_of_ble_eq_true rfl⟩) hK hP [2, 3, 4, 5, 6, 7, 8, 9, 10] rfl 2 rfl rfl rfl hl.1 rfl (Nat.le_of_ble_eq_true rfl) d_Tree_move_68 ⟨Nat.zero_le _, Nat.zero_le _⟩ hS (fun H locs hP hS => ?_)
        have := ino_lt L (dNow u) (eof L (dNow u) d w)
        refine lv_istore (lv' := [(7, .int (nI (ino L (dNow u) (eof L (dNow u) d w)))), (6, .int (kfl (iK L (dNow u) d2) 2)), (5, .int (eof L (dNow u) d w)), (0, .ref (g 9)), (1, .int (nI d)), (2, .int (nI w)), (3, .int (nI d2)), (4, .int (nI w2))]) hx hb d_Tree_move_71 hl (by decide) rfl (fun ls hl => ?_)
        refine lv_aload_n hx hb d_Tree_move_73 rfl (lv_at hl 3 rfl) ?_
        refine va_get (D := D) (ci := 3) (v := .ref (g 7)) (C := R_Tree) (T := T_Tree) (N := 5) hx hb hTB in_Tree hown hK hP 0 rfl rfl 2 (by decide) (hTB _ k_197) (fun _ h9 => h9) rfl d_Tree_move_74 ?_
        refine lv_iload_n hx hb d_Tree_move_77 rfl (lv_at hl 6 rfl) ?_
        refine lv_iload hx hb d_Tree_move_78 (lv_at hl 7 rfl) ?_
        refine gz_roV (As := [.int (nI d2), .int (nI w2)]) (rest := []) (wc := (wR g k L u f0)) ⟨hx, hb, hml, hown, hTB⟩ (c_Dirs_entryNamed l D g k L hL0 hL u f0 d2 w2 (by omega)) (cwV 2 hTB (gd_V k_348 k_349 k_350 k_55 k_351) rfl rfl rfl (by decide +kernel) ⟨Nat.le_of_ble_eq_true rfl, Nat.le_of_ble_eq_true rfl⟩) hK hP [2, 3, 4, 5, 6, 7, 8, 9, 10] rfl 2 rfl rfl rfl hl.1 rfl (Nat.le_of_ble_eq_true rfl) d_Tree_move_80 ⟨Nat.zero_le _, Nat.zero_le _⟩ hS (fun H locs hP hS => ?_)
        refine lv_istore (lv' := [(8, .int (ent L (dNow u) d2 w2)), (7, .int (nI (ino L (dNow u) (eof L (dNow u) d w)))), (6, .int (kfl (iK L (dNow u) d2) 2)), (5, .int (eof L (dNow u) d w)), (0, .ref (g 9)), (1, .int (nI d)), (2, .int (nI w)), (3, .int (nI d2)), (4, .int (nI w2))]) hx hb d_Tree_move_83 hl (by decide) rfl (fun ls hl => ?_)
        refine lv_aload_n hx hb d_Tree_move_85 rfl (lv_at hl 4 rfl) ?_
        refine lv_iload hx hb d_Tree_move_86 (lv_at hl 1 rfl) ?_
        refine lv_iload_n hx hb d_Tree_move_88 rfl (lv_at hl 7 rfl) ?_
        refine lv_iload hx hb d_Tree_move_89 (lv_at hl 0 rfl) ?_
        refine gz_muI (As := [.int (nI (ino L (dNow u) (eof L (dNow u) d w))), .int (nI d2), .int (ent L (dNow u) d2 w2)]) (rest := []) (wc := (wT g k L u f0 tl tp)) (w1 := (wT g k L u (mvP L (dNow u) f0 (ino L (dNow u) (eof L (dNow u) d w)) (ent L (dNow u) d2 w2)) tl tp)) (wr := ([])) ⟨hx, hb, hml, hown, hTB⟩ (c_Tree_moveFault l D g k L hL0 hL u f0 tl tp (ino L (dNow u) (eof L (dNow u) d w)) d2 (ent L (dNow u) d2 w2) (by omega)) (cwV 3 hTB (gd_V k_508 k_510 k_12 k_51 k_511) rfl rfl rfl (by decide +kernel) ⟨Nat.le_of_ble_eq_true rfl, Nat.le_of_ble_eq_true rfl⟩) hK hP hD hA [0, 1, 2, 3, 4, 5, 6, 7, 8, 9, 10] [] rfl rfl (by decide) rfl (by decide) (by decide) 0 rfl rfl rfl hl.1 rfl (Nat.le_of_ble_eq_true rfl) d_Tree_move_91 ⟨Nat.zero_le _, Nat.zero_le _⟩ hS (fun H locs hP hD hS => ?_)
        have hP : va_P D cl5 (wT g k L u (mvP L (dNow u) f0 (ino L (dNow u) (eof L (dNow u) d w)) (ent L (dNow u) d2 w2)) tl tp) H := hP
        have hD : va_D A (wT g k L u (mvP L (dNow u) f0 (ino L (dNow u) (eof L (dNow u) d w)) (ent L (dNow u) d2 w2)) tl tp) := hD
        refine lv_istore (lv' := [(6, .int (mvF L (dNow u) f0 (ino L (dNow u) (eof L (dNow u) d w)) d2 (ent L (dNow u) d2 w2))), (8, .int (ent L (dNow u) d2 w2)), (7, .int (nI (ino L (dNow u) (eof L (dNow u) d w)))), (5, .int (eof L (dNow u) d w)), (0, .ref (g 9)), (1, .int (nI d)), (2, .int (nI w)), (3, .int (nI d2)), (4, .int (nI w2))]) hx hb d_Tree_move_94 hl (by decide) rfl (fun ls hl => ?_)
        refine lv_iload hx hb d_Tree_move_96 (lv_at hl 0 rfl) ?_
        refine lv_if_ge (tgt := 104) hx hb d_Tree_move_98 (by decide) (fun h98 => ?_) (fun h98 => ?_)
        · refine lv_aload_n hx hb d_Tree_move_104 rfl (lv_at hl 4 rfl) ?_
          refine va_get (D := D) (ci := 3) (v := .ref (g 7)) (C := R_Tree) (T := T_Tree) (N := 5) hx hb hTB in_Tree hown hK hP 0 rfl rfl 2 (by decide) (hTB _ k_197) (fun _ h9 => h9) rfl d_Tree_move_105 ?_
          refine lv_iload hx hb d_Tree_move_108 (lv_at hl 3 rfl) ?_
          refine gz_muV (As := [.int (eof L (dNow u) d w)]) (rest := []) (wc := (wR g k L u (mvP L (dNow u) f0 (ino L (dNow u) (eof L (dNow u) d w)) (ent L (dNow u) d2 w2)))) (w1 := (wR g k L (stE L u (eof L (dNow u) d w) (nI 0) (nI 0)) (mvP L (dNow u) f0 (ino L (dNow u) (eof L (dNow u) d w)) (ent L (dNow u) d2 w2)))) (wr := (hT g k tl tp)) ⟨hx, hb, hml, hown, hTB⟩ (c_Dirs_clearEntry l D g k L hL0 hL u (mvP L (dNow u) f0 (ino L (dNow u) (eof L (dNow u) d w)) (ent L (dNow u) d2 w2)) (eof L (dNow u) d w)) (cwV 1 hTB (gd_V k_530 k_531 k_532 k_55 k_533) rfl rfl rfl (by decide +kernel) ⟨Nat.le_of_ble_eq_true rfl, Nat.le_of_ble_eq_true rfl⟩) hK hP hD hA [2, 3, 4, 5, 6, 7, 8, 9, 10] [0, 1] rfl rfl (by decide) rfl (by decide) (by decide) 2 rfl rfl rfl hl.1 rfl (Nat.le_of_ble_eq_true rfl) d_Tree_move_110 ⟨Nat.zero_le _, Nat.zero_le _⟩ hS (fun H locs hP hD hS => ?_)
          have hP : va_P D cl5 (wT g k L (stE L u (eof L (dNow u) d w) (nI 0) (nI 0)) (mvP L (dNow u) f0 (ino L (dNow u) (eof L (dNow u) d w)) (ent L (dNow u) d2 w2)) tl tp) H := hP
          have hD : va_D A (wT g k L (stE L u (eof L (dNow u) d w) (nI 0) (nI 0)) (mvP L (dNow u) f0 (ino L (dNow u) (eof L (dNow u) d w)) (ent L (dNow u) d2 w2)) tl tp) := hD
          refine lv_iload hx hb d_Tree_move_113 (lv_at hl 1 rfl) ?_
          refine lv_iconst (v := (-1)) hx hb d_Tree_move_115 (by decide +kernel) ?_
          refine lv_icmp_eq (tgt := 151) hx hb d_Tree_move_116 (by decide) (fun h116 => ?_) (fun h116 => ?_)
          · refine lv_aload_n hx hb d_Tree_move_151 rfl (lv_at hl 4 rfl) ?_
            refine va_get (D := D) (ci := 3) (v := .ref (g 7)) (C := R_Tree) (T := T_Tree) (N := 5) hx hb hTB in_Tree hown hK hP 0 rfl rfl 2 (by decide) (hTB _ k_197) (fun _ h9 => h9) rfl d_Tree_move_152 ?_
            refine lv_iload_n hx hb d_Tree_move_155 rfl (lv_at hl 7 rfl) ?_
            refine lv_iload hx hb d_Tree_move_156 (lv_at hl 8 rfl) ?_
            refine lv_iload hx hb d_Tree_move_158 (lv_at hl 2 rfl) ?_
            refine gz_muI (As := [.int (nI d2), .int (nI w2), .int (nI (ino L (dNow u) (eof L (dNow u) d w)))]) (rest := []) (wc := (wR g k L (stE L u (eof L (dNow u) d w) (nI 0) (nI 0)) (mvP L (dNow u) f0 (ino L (dNow u) (eof L (dNow u) d w)) (ent L (dNow u) d2 w2)))) (w1 := (wR g k L ((adE L (stE L u (eof L (dNow u) d w) (nI 0) (nI 0)) d2 (nI w2) (nI (ino L (dNow u) (eof L (dNow u) d w)))).2) (mvP L (dNow u) f0 (ino L (dNow u) (eof L (dNow u) d w)) (ent L (dNow u) d2 w2)))) (wr := (hT g k tl tp)) ⟨hx, hb, hml, hown, hTB⟩ (c_Dirs_addEntry l D g k L hL0 hL (stE L u (eof L (dNow u) d w) (nI 0) (nI 0)) (mvP L (dNow u) f0 (ino L (dNow u) (eof L (dNow u) d w)) (ent L (dNow u) d2 w2)) d2 (nI w2) (nI (ino L (dNow u) (eof L (dNow u) d w)))) (cwV 3 hTB (gd_V k_386 k_387 k_388 k_55 k_389) rfl rfl rfl (by decide +kernel) ⟨Nat.le_of_ble_eq_true rfl, Nat.le_of_ble_eq_true rfl⟩) hK hP hD hA [2, 3, 4, 5, 6, 7, 8, 9, 10] [0, 1] rfl rfl (by decide) rfl (by decide) (by decide) 2 rfl rfl rfl hl.1 rfl (Nat.le_of_ble_eq_true rfl) d_Tree_move_160 ⟨Nat.zero_le _, Nat.zero_le _⟩ hS (fun H locs hP hD hS => ?_)
            have hP : va_P D cl5 (wT g k L ((adE L (stE L u (eof L (dNow u) d w) (nI 0) (nI 0)) d2 (nI w2) (nI (ino L (dNow u) (eof L (dNow u) d w)))).2) (mvP L (dNow u) f0 (ino L (dNow u) (eof L (dNow u) d w)) (ent L (dNow u) d2 w2)) tl tp) H := hP
            have hD : va_D A (wT g k L ((adE L (stE L u (eof L (dNow u) d w) (nI 0) (nI 0)) d2 (nI w2) (nI (ino L (dNow u) (eof L (dNow u) d w)))).2) (mvP L (dNow u) f0 (ino L (dNow u) (eof L (dNow u) d w)) (ent L (dNow u) d2 w2)) tl tp) := hD
            refine gz_ifz_ne (tgt := 176) hx hb d_Tree_move_163 (by decide) (fun h163 => ?_) (fun h163 => ?_)
            · refine lv_aload_n hx hb d_Tree_move_176 rfl (lv_at hl 4 rfl) ?_
              refine va_get (D := D) (ci := 3) (v := .ref (g 0)) (C := R_Tree) (T := T_Tree) (N := 5) hx hb hTB in_Tree hown hK hP 0 rfl rfl 0 (by decide) (hTB _ k_195) (fun _ h9 => h9) rfl d_Tree_move_177 ?_
              refine gz_muV (As := []) (rest := []) (wc := (wD g k L ((adE L (stE L u (eof L (dNow u) d w) (nI 0) (nI 0)) d2 (nI w2) (nI (ino L (dNow u) (eof L (dNow u) d w)))).2))) (w1 := (wD g k L (stl L ((adE L (stE L u (eof L (dNow u) d w) (nI 0) (nI 0)) d2 (nI w2) (nI (ino L (dNow u) (eof L (dNow u) d w)))).2)))) (wr := (hT g k tl tp ++ (hR g k (mvP L (dNow u) f0 (ino L (dNow u) (eof L (dNow u) d w)) (ent L (dNow u) d2 w2)) ++ hI g))) ⟨hx, hb, hml, hown, hTB⟩ (c_Disk_settle l D g k L hL0 hL ((adE L (stE L u (eof L (dNow u) d w) (nI 0) (nI 0)) d2 (nI w2) (nI (ino L (dNow u) (eof L (dNow u) d w)))).2)) (cwV 0 hTB (gd_V k_156 k_157 k_158 k_52 k_159) rfl rfl rfl (by decide +kernel) ⟨Nat.le_of_ble_eq_true rfl, Nat.le_of_ble_eq_true rfl⟩) hK hP hD hA [5, 6, 7, 8, 9, 10] [0, 1, 2, 3, 4] rfl rfl (by decide) rfl (by decide) (by decide) 5 rfl rfl rfl hl.1 rfl (Nat.le_of_ble_eq_true rfl) d_Tree_move_180 ⟨Nat.zero_le _, Nat.zero_le _⟩ hS (fun H locs hP hD hS => ?_)
              have hP : va_P D cl5 (wT g k L (stl L ((adE L (stE L u (eof L (dNow u) d w) (nI 0) (nI 0)) d2 (nI w2) (nI (ino L (dNow u) (eof L (dNow u) d w)))).2)) (mvP L (dNow u) f0 (ino L (dNow u) (eof L (dNow u) d w)) (ent L (dNow u) d2 w2)) tl tp) H := hP
              have hD : va_D A (wT g k L (stl L ((adE L (stE L u (eof L (dNow u) d w) (nI 0) (nI 0)) d2 (nI w2) (nI (ino L (dNow u) (eof L (dNow u) d w)))).2)) (mvP L (dNow u) f0 (ino L (dNow u) (eof L (dNow u) d w)) (ent L (dNow u) d2 w2)) tl tp) := hD
              refine lv_iconst (v := nI 0) hx hb d_Tree_move_183 (by decide +kernel) ?_
              have hP9 : va_P D cl5 (wT g k L ((mvC L u f0 d w d2 w2).2) (mv2 L (dNow u) f0 d w d2 w2) tl tp) H := (by unfold mvC; rw [if_pos h27, if_pos h43, if_neg hne, if_pos h98]; unfold mvD; rw [if_pos h116, if_pos h163]; unfold mv2; rw [if_pos ⟨h27, h43, hne⟩]; exact hP)
              have hD9 : va_D A (wT g k L ((mvC L u f0 d w d2 w2).2) (mv2 L (dNow u) f0 d w d2 w2) tl tp) := (by unfold mvC; rw [if_pos h27, if_pos h43, if_neg hne, if_pos h98]; unfold mvD; rw [if_pos h116, if_pos h163]; unfold mv2; rw [if_pos ⟨h27, h43, hne⟩]; exact hD)
              exact W.iret (v := nI 0) hx hb hr (fun tt9 ht9 hW9 => ⟨⟨_, (), rfl, (by unfold mvC; rw [if_pos h27, if_pos h43, if_neg hne, if_pos h98]; unfold mvD; rw [if_pos h116, if_pos h163]), ⟨by rw [ht9]; exact hP9, hD9⟩⟩, hS.F ht9⟩) hS.2.2 d_Tree_move_184
            · refine lv_aload_n hx hb d_Tree_move_166 rfl (lv_at hl 4 rfl) ?_
              refine va_get (D := D) (ci := 3) (v := .ref (g 0)) (C := R_Tree) (T := T_Tree) (N := 5) hx hb hTB in_Tree hown hK hP 0 rfl rfl 0 (by decide) (hTB _ k_195) (fun _ h9 => h9) rfl d_Tree_move_167 ?_
              refine gz_muV (As := []) (rest := []) (wc := (wD g k L ((adE L (stE L u (eof L (dNow u) d w) (nI 0) (nI 0)) d2 (nI w2) (nI (ino L (dNow u) (eof L (dNow u) d w)))).2))) (w1 := (wD g k L (und L ((adE L (stE L u (eof L (dNow u) d w) (nI 0) (nI 0)) d2 (nI w2) (nI (ino L (dNow u) (eof L (dNow u) d w)))).2)))) (wr := (hT g k tl tp ++ (hR g k (mvP L (dNow u) f0 (ino L (dNow u) (eof L (dNow u) d w)) (ent L (dNow u) d2 w2)) ++ hI g))) ⟨hx, hb, hml, hown, hTB⟩ (c_Disk_undo l D g k L hL0 hL ((adE L (stE L u (eof L (dNow u) d w) (nI 0) (nI 0)) d2 (nI w2) (nI (ino L (dNow u) (eof L (dNow u) d w)))).2)) (cwV 0 hTB (gd_V k_435 k_436 k_437 k_52 k_438) rfl rfl rfl (by decide +kernel) ⟨Nat.le_of_ble_eq_true rfl, Nat.le_of_ble_eq_true rfl⟩) hK hP hD hA [5, 6, 7, 8, 9, 10] [0, 1, 2, 3, 4] rfl rfl (by decide) rfl (by decide) (by decide) 5 rfl rfl rfl hl.1 rfl (Nat.le_of_ble_eq_true rfl) d_Tree_move_170 ⟨Nat.zero_le _, Nat.zero_le _⟩ hS (fun H locs hP hD hS => ?_)
              have hP : va_P D cl5 (wT g k L (und L ((adE L (stE L u (eof L (dNow u) d w) (nI 0) (nI 0)) d2 (nI w2) (nI (ino L (dNow u) (eof L (dNow u) d w)))).2)) (mvP L (dNow u) f0 (ino L (dNow u) (eof L (dNow u) d w)) (ent L (dNow u) d2 w2)) tl tp) H := hP
              have hD : va_D A (wT g k L (und L ((adE L (stE L u (eof L (dNow u) d w) (nI 0) (nI 0)) d2 (nI w2) (nI (ino L (dNow u) (eof L (dNow u) d w)))).2)) (mvP L (dNow u) f0 (ino L (dNow u) (eof L (dNow u) d w)) (ent L (dNow u) d2 w2)) tl tp) := hD
              refine lv_bipush (v := (-4)) hx hb d_Tree_move_173 (by decide +kernel) ?_
              have hP9 : va_P D cl5 (wT g k L ((mvC L u f0 d w d2 w2).2) (mv2 L (dNow u) f0 d w d2 w2) tl tp) H := (by unfold mvC; rw [if_pos h27, if_pos h43, if_neg hne, if_pos h98]; unfold mvD; rw [if_pos h116, if_neg (by rw [h163]; decide)]; unfold mv2; rw [if_pos ⟨h27, h43, hne⟩]; exact hP)
              have hD9 : va_D A (wT g k L ((mvC L u f0 d w d2 w2).2) (mv2 L (dNow u) f0 d w d2 w2) tl tp) := (by unfold mvC; rw [if_pos h27, if_pos h43, if_neg hne, if_pos h98]; unfold mvD; rw [if_pos h116, if_neg (by rw [h163]; decide)]; unfold mv2; rw [if_pos ⟨h27, h43, hne⟩]; exact hD)
              exact W.iret (v := (-4)) hx hb hr (fun tt9 ht9 hW9 => ⟨⟨_, (), rfl, (by unfold mvC; rw [if_pos h27, if_pos h43, if_neg hne, if_pos h98]; unfold mvD; rw [if_pos h116, if_neg (by rw [h163]; decide)]), ⟨by rw [ht9]; exact hP9, hD9⟩⟩, hS.F ht9⟩) hS.2.2 d_Tree_move_175
          · refine lv_aload_n hx hb d_Tree_move_119 rfl (lv_at hl 4 rfl) ?_
            refine va_get (D := D) (ci := 3) (v := .ref (g 6)) (C := R_Tree) (T := T_Tree) (N := 5) hx hb hTB in_Tree hown hK hP 0 rfl rfl 1 (by decide) (hTB _ k_196) (fun _ h9 => h9) rfl d_Tree_move_120 ?_
            refine lv_aload_n hx hb d_Tree_move_123 rfl (lv_at hl 4 rfl) ?_
            refine va_get (D := D) (ci := 3) (v := .ref (g 7)) (C := R_Tree) (T := T_Tree) (N := 5) hx hb hTB in_Tree hown hK hP 0 rfl rfl 2 (by decide) (hTB _ k_197) (fun _ h9 => h9) rfl d_Tree_move_124 ?_
            refine lv_iload hx hb d_Tree_move_127 (lv_at hl 1 rfl) ?_
            refine gz_roV (As := [.int (ent L (dNow u) d2 w2)]) (rest := [.ref (g 6)]) (wc := (wR g k L (stE L u (eof L (dNow u) d w) (nI 0) (nI 0)) (mvP L (dNow u) f0 (ino L (dNow u) (eof L (dNow u) d w)) (ent L (dNow u) d2 w2)))) ⟨hx, hb, hml, hown, hTB⟩ (c_Dirs_inodeOf l D g k L hL0 hL (stE L u (eof L (dNow u) d w) (nI 0) (nI 0)) (mvP L (dNow u) f0 (ino L (dNow u) (eof L (dNow u) d w)) (ent L (dNow u) d2 w2)) (ent L (dNow u) d2 w2)) (cwV 1 hTB (gd_V k_450 k_451 k_452 k_55 k_453) rfl rfl rfl (by decide +kernel) ⟨Nat.le_of_ble_eq_true rfl, Nat.le_of_ble_eq_true rfl⟩) hK hP [2, 3, 4, 5, 6, 7, 8, 9, 10] rfl 2 rfl rfl rfl hl.1 rfl (Nat.le_of_ble_eq_true rfl) d_Tree_move_129 ⟨Nat.zero_le _, Nat.zero_le _⟩ hS (fun H locs hP hS => ?_)
            have := ino_lt L (dNow (stE L u (eof L (dNow u) d w) (nI 0) (nI 0))) (ent L (dNow u) d2 w2)
            refine gz_muV (As := [.int (nI (ino L (dNow (stE L u (eof L (dNow u) d w) (nI 0) (nI 0))) (ent L (dNow u) d2 w2)))]) (rest := []) (wc := (wI g k L (stE L u (eof L (dNow u) d w) (nI 0) (nI 0)))) (w1 := (wI g k L (rel L (stE L u (eof L (dNow u) d w) (nI 0) (nI 0)) (ino L (dNow (stE L u (eof L (dNow u) d w) (nI 0) (nI 0))) (ent L (dNow u) d2 w2))))) (wr := (hT g k tl tp ++ hR g k (mvP L (dNow u) f0 (ino L (dNow u) (eof L (dNow u) d w)) (ent L (dNow u) d2 w2)))) ⟨hx, hb, hml, hown, hTB⟩ (c_Inodes_release l D g k L hL0 hL (stE L u (eof L (dNow u) d w) (nI 0) (nI 0)) (ino L (dNow (stE L u (eof L (dNow u) d w) (nI 0) (nI 0))) (ent L (dNow u) d2 w2))) (cwV 1 hTB (gd_V k_534 k_535 k_536 k_54 k_537) rfl rfl rfl (by decide +kernel) ⟨Nat.le_of_ble_eq_true rfl, Nat.le_of_ble_eq_true rfl⟩) hK hP hD hA [4, 5, 6, 7, 8, 9, 10] [0, 1, 2, 3] rfl rfl (by decide) rfl (by decide) (by decide) 4 rfl rfl rfl hl.1 rfl (Nat.le_of_ble_eq_true rfl) d_Tree_move_132 ⟨Nat.zero_le _, Nat.zero_le _⟩ hS (fun H locs hP hD hS => ?_)
            have hP : va_P D cl5 (wT g k L (rel L (stE L u (eof L (dNow u) d w) (nI 0) (nI 0)) (ino L (dNow (stE L u (eof L (dNow u) d w) (nI 0) (nI 0))) (ent L (dNow u) d2 w2))) (mvP L (dNow u) f0 (ino L (dNow u) (eof L (dNow u) d w)) (ent L (dNow u) d2 w2)) tl tp) H := hP
            have hD : va_D A (wT g k L (rel L (stE L u (eof L (dNow u) d w) (nI 0) (nI 0)) (ino L (dNow (stE L u (eof L (dNow u) d w) (nI 0) (nI 0))) (ent L (dNow u) d2 w2))) (mvP L (dNow u) f0 (ino L (dNow u) (eof L (dNow u) d w)) (ent L (dNow u) d2 w2)) tl tp) := hD
            refine lv_aload_n hx hb d_Tree_move_135 rfl (lv_at hl 4 rfl) ?_
            refine va_get (D := D) (ci := 3) (v := .ref (g 7)) (C := R_Tree) (T := T_Tree) (N := 5) hx hb hTB in_Tree hown hK hP 0 rfl rfl 2 (by decide) (hTB _ k_197) (fun _ h9 => h9) rfl d_Tree_move_136 ?_
            refine lv_iload hx hb d_Tree_move_139 (lv_at hl 1 rfl) ?_
            refine lv_iload hx hb d_Tree_move_141 (lv_at hl 8 rfl) ?_
            refine lv_iload hx hb d_Tree_move_143 (lv_at hl 2 rfl) ?_
            refine gz_muV (As := [.int (ent L (dNow u) d2 w2), .int (nI w2), .int (nI (ino L (dNow u) (eof L (dNow u) d w)))]) (rest := []) (wc := (wR g k L (rel L (stE L u (eof L (dNow u) d w) (nI 0) (nI 0)) (ino L (dNow (stE L u (eof L (dNow u) d w) (nI 0) (nI 0))) (ent L (dNow u) d2 w2))) (mvP L (dNow u) f0 (ino L (dNow u) (eof L (dNow u) d w)) (ent L (dNow u) d2 w2)))) (w1 := (wR g k L (stE L (rel L (stE L u (eof L (dNow u) d w) (nI 0) (nI 0)) (ino L (dNow (stE L u (eof L (dNow u) d w) (nI 0) (nI 0))) (ent L (dNow u) d2 w2))) (ent L (dNow u) d2 w2) (nI w2) (nI (ino L (dNow u) (eof L (dNow u) d w)))) (mvP L (dNow u) f0 (ino L (dNow u) (eof L (dNow u) d w)) (ent L (dNow u) d2 w2)))) (wr := (hT g k tl tp)) ⟨hx, hb, hml, hown, hTB⟩ (c_Dirs_setEntry l D g k L hL0 hL (rel L (stE L u (eof L (dNow u) d w) (nI 0) (nI 0)) (ino L (dNow (stE L u (eof L (dNow u) d w) (nI 0) (nI 0))) (ent L (dNow u) d2 w2))) (mvP L (dNow u) f0 (ino L (dNow u) (eof L (dNow u) d w)) (ent L (dNow u) d2 w2)) (ent L (dNow u) d2 w2) (nI w2) (nI (ino L (dNow u) (eof L (dNow u) d w)))) (cwV 3 hTB (gd_V k_539 k_430 k_431 k_55 k_432) rfl rfl rfl (by decide +kernel) ⟨Nat.le_of_ble_eq_true rfl, Nat.le_of_ble_eq_true rfl⟩) hK hP hD hA [2, 3, 4, 5, 6, 7, 8, 9, 10] [0, 1] rfl rfl (by decide) rfl (by decide) (by decide) 2 rfl rfl rfl hl.1 rfl (Nat.le_of_ble_eq_true rfl) d_Tree_move_145 ⟨Nat.zero_le _, Nat.zero_le _⟩ hS (fun H locs hP hD hS => ?_)
            have hP : va_P D cl5 (wT g k L (stE L (rel L (stE L u (eof L (dNow u) d w) (nI 0) (nI 0)) (ino L (dNow (stE L u (eof L (dNow u) d w) (nI 0) (nI 0))) (ent L (dNow u) d2 w2))) (ent L (dNow u) d2 w2) (nI w2) (nI (ino L (dNow u) (eof L (dNow u) d w)))) (mvP L (dNow u) f0 (ino L (dNow u) (eof L (dNow u) d w)) (ent L (dNow u) d2 w2)) tl tp) H := hP
            have hD : va_D A (wT g k L (stE L (rel L (stE L u (eof L (dNow u) d w) (nI 0) (nI 0)) (ino L (dNow (stE L u (eof L (dNow u) d w) (nI 0) (nI 0))) (ent L (dNow u) d2 w2))) (ent L (dNow u) d2 w2) (nI w2) (nI (ino L (dNow u) (eof L (dNow u) d w)))) (mvP L (dNow u) f0 (ino L (dNow u) (eof L (dNow u) d w)) (ent L (dNow u) d2 w2)) tl tp) := hD
            refine lv_goto (tgt := 176) hx hb d_Tree_move_148 (by decide) ?_
            refine lv_aload_n hx hb d_Tree_move_176 rfl (lv_at hl 4 rfl) ?_
            refine va_get (D := D) (ci := 3) (v := .ref (g 0)) (C := R_Tree) (T := T_Tree) (N := 5) hx hb hTB in_Tree hown hK hP 0 rfl rfl 0 (by decide) (hTB _ k_195) (fun _ h9 => h9) rfl d_Tree_move_177 ?_
            refine gz_muV (As := []) (rest := []) (wc := (wD g k L (stE L (rel L (stE L u (eof L (dNow u) d w) (nI 0) (nI 0)) (ino L (dNow (stE L u (eof L (dNow u) d w) (nI 0) (nI 0))) (ent L (dNow u) d2 w2))) (ent L (dNow u) d2 w2) (nI w2) (nI (ino L (dNow u) (eof L (dNow u) d w)))))) (w1 := (wD g k L (stl L (stE L (rel L (stE L u (eof L (dNow u) d w) (nI 0) (nI 0)) (ino L (dNow (stE L u (eof L (dNow u) d w) (nI 0) (nI 0))) (ent L (dNow u) d2 w2))) (ent L (dNow u) d2 w2) (nI w2) (nI (ino L (dNow u) (eof L (dNow u) d w))))))) (wr := (hT g k tl tp ++ (hR g k (mvP L (dNow u) f0 (ino L (dNow u) (eof L (dNow u) d w)) (ent L (dNow u) d2 w2)) ++ hI g))) ⟨hx, hb, hml, hown, hTB⟩ (c_Disk_settle l D g k L hL0 hL (stE L (rel L (stE L u (eof L (dNow u) d w) (nI 0) (nI 0)) (ino L (dNow (stE L u (eof L (dNow u) d w) (nI 0) (nI 0))) (ent L (dNow u) d2 w2))) (ent L (dNow u) d2 w2) (nI w2) (nI (ino L (dNow u) (eof L (dNow u) d w))))) (cwV 0 hTB (gd_V k_156 k_157 k_158 k_52 k_159) rfl rfl rfl (by decide +kernel) ⟨Nat.le_of_ble_eq_true rfl, Nat.le_of_ble_eq_true rfl⟩) hK hP hD hA [5, 6, 7, 8, 9, 10] [0, 1, 2, 3, 4] rfl rfl (by decide) rfl (by decide) (by decide) 5 rfl rfl rfl hl.1 rfl (Nat.le_of_ble_eq_true rfl) d_Tree_move_180 ⟨Nat.zero_le _, Nat.zero_le _⟩ hS (fun H locs hP hD hS => ?_)
            have hP : va_P D cl5 (wT g k L (stl L (stE L (rel L (stE L u (eof L (dNow u) d w) (nI 0) (nI 0)) (ino L (dNow (stE L u (eof L (dNow u) d w) (nI 0) (nI 0))) (ent L (dNow u) d2 w2))) (ent L (dNow u) d2 w2) (nI w2) (nI (ino L (dNow u) (eof L (dNow u) d w))))) (mvP L (dNow u) f0 (ino L (dNow u) (eof L (dNow u) d w)) (ent L (dNow u) d2 w2)) tl tp) H := hP
            have hD : va_D A (wT g k L (stl L (stE L (rel L (stE L u (eof L (dNow u) d w) (nI 0) (nI 0)) (ino L (dNow (stE L u (eof L (dNow u) d w) (nI 0) (nI 0))) (ent L (dNow u) d2 w2))) (ent L (dNow u) d2 w2) (nI w2) (nI (ino L (dNow u) (eof L (dNow u) d w))))) (mvP L (dNow u) f0 (ino L (dNow u) (eof L (dNow u) d w)) (ent L (dNow u) d2 w2)) tl tp) := hD
            refine lv_iconst (v := nI 0) hx hb d_Tree_move_183 (by decide +kernel) ?_
            have hP9 : va_P D cl5 (wT g k L ((mvC L u f0 d w d2 w2).2) (mv2 L (dNow u) f0 d w d2 w2) tl tp) H := (by unfold mvC; rw [if_pos h27, if_pos h43, if_neg hne, if_pos h98]; unfold mvD; rw [if_neg h116]; unfold mv2; rw [if_pos ⟨h27, h43, hne⟩]; exact hP)
            have hD9 : va_D A (wT g k L ((mvC L u f0 d w d2 w2).2) (mv2 L (dNow u) f0 d w d2 w2) tl tp) := (by unfold mvC; rw [if_pos h27, if_pos h43, if_neg hne, if_pos h98]; unfold mvD; rw [if_neg h116]; unfold mv2; rw [if_pos ⟨h27, h43, hne⟩]; exact hD)
            exact W.iret (v := nI 0) hx hb hr (fun tt9 ht9 hW9 => ⟨⟨_, (), rfl, (by unfold mvC; rw [if_pos h27, if_pos h43, if_neg hne, if_pos h98]; unfold mvD; rw [if_neg h116]), ⟨by rw [ht9]; exact hP9, hD9⟩⟩, hS.F ht9⟩) hS.2.2 d_Tree_move_184
        · refine lv_iload hx hb d_Tree_move_101 (lv_at hl 0 rfl) ?_
          have hP9 : va_P D cl5 (wT g k L ((mvC L u f0 d w d2 w2).2) (mv2 L (dNow u) f0 d w d2 w2) tl tp) H := (by unfold mvC; rw [if_pos h27, if_pos h43, if_neg hne, if_neg h98]; unfold mv2; rw [if_pos ⟨h27, h43, hne⟩]; exact hP)
          have hD9 : va_D A (wT g k L ((mvC L u f0 d w d2 w2).2) (mv2 L (dNow u) f0 d w d2 w2) tl tp) := (by unfold mvC; rw [if_pos h27, if_pos h43, if_neg hne, if_neg h98]; unfold mv2; rw [if_pos ⟨h27, h43, hne⟩]; exact hD)
          exact W.iret (v := mvF L (dNow u) f0 (ino L (dNow u) (eof L (dNow u) d w)) d2 (ent L (dNow u) d2 w2)) hx hb hr (fun tt9 ht9 hW9 => ⟨⟨_, (), rfl, (by unfold mvC; rw [if_pos h27, if_pos h43, if_neg hne, if_neg h98]), ⟨by rw [ht9]; exact hP9, hD9⟩⟩, hS.F ht9⟩) hS.2.2 d_Tree_move_103
      · refine lv_iload_n hx hb d_Tree_move_54 rfl (lv_at hl 4 rfl) ?_
        refine lv_iload hx hb d_Tree_move_55 (lv_at hl 6 rfl) ?_
        refine gz_icmp_ne (tgt := 62) hx hb d_Tree_move_57 (by decide) (by omega) (by omega) (fun h57 => ?_) (fun h57 => ?_)
        · have hne : ¬ (d = d2 ∧ w = w2) := fun z => h57 z.2
          refine lv_aload_n hx hb d_Tree_move_62 rfl (lv_at hl 2 rfl) ?_
          refine va_get (D := D) (ci := 3) (v := .ref (g 7)) (C := R_Tree) (T := T_Tree) (N := 5) hx hb hTB in_Tree hown hK hP 0 rfl rfl 2 (by decide) (hTB _ k_197) (fun _ h9 => h9) rfl d_Tree_move_63 ?_
          refine lv_iload hx hb d_Tree_move_66 (lv_at hl 1 rfl) ?_
          refine gz_roV (As := [.int (eof L (dNow u) d w)]) (rest := []) (wc := (wR g k L u f0)) ⟨hx, hb, hml, hown, hTB⟩ (c_Dirs_inodeOf l D g k L hL0 hL u f0 (eof L (dNow u) d w)) (cwV 1 hTB (gd_V k_450 k_451 k_452 k_55 k_453) rfl rfl rfl (by decide +kernel) ⟨Nat.le_of_ble_eq_true rfl, Nat.le_of_ble_eq_true rfl⟩) hK hP [2, 3, 4, 5, 6, 7, 8, 9, 10] rfl 2 rfl rfl rfl hl.1 rfl (Nat.le_of_ble_eq_true rfl) d_Tree_move_68 ⟨Nat.zero_le _, Nat.zero_le _⟩ hS (fun H locs hP hS => ?_)
          have := ino_lt L (dNow u) (eof L (dNow u) d w)
          refine lv_istore (lv' := [(7, .int (nI (ino L (dNow u) (eof L (dNow u) d w)))), (6, .int (kfl (iK L (dNow u) d2) 2)), (5, .int (eof L (dNow u) d w)), (0, .ref (g 9)), (1, .int (nI d)), (2, .int (nI w)), (3, .int (nI d2)), (4, .int (nI w2))]) hx hb d_Tree_move_71 hl (by decide) rfl (fun ls hl => ?_)
          refine lv_aload_n hx hb d_Tree_move_73 rfl (lv_at hl 3 rfl) ?_
          refine va_get (D := D) (ci := 3) (v := .ref (g 7)) (C := R_Tree) (T := T_Tree) (N := 5) hx hb hTB in_Tree hown hK hP 0 rfl rfl 2 (by decide) (hTB _ k_197) (fun _ h9 => h9) rfl d_Tree_move_74 ?_
          refine lv_iload_n hx hb d_Tree_move_77 rfl (lv_at hl 6 rfl) ?_
          refine lv_iload hx hb d_Tree_move_78 (lv_at hl 7 rfl) ?_
          refine gz_roV (As := [.int (nI d2), .int (nI w2)]) (rest := []) (wc := (wR g k L u f0)) ⟨hx, hb, hml, hown, hTB⟩ (c_Dirs_entryNamed l D g k L hL0 hL u f0 d2 w2 (by omega)) (cwV 2 hTB (gd_V k_348 k_349 k_350 k_55 k_351) rfl rfl rfl (by decide +kernel) ⟨Nat.le_of_ble_eq_true rfl, Nat.le_of_ble_eq_true rfl⟩) hK hP [2, 3, 4, 5, 6, 7, 8, 9, 10] rfl 2 rfl rfl rfl hl.1 rfl (Nat.le_of_ble_eq_true rfl) d_Tree_move_80 ⟨Nat.zero_le _, Nat.zero_le _⟩ hS (fun H locs hP hS => ?_)
          refine lv_istore (lv' := [(8, .int (ent L (dNow u) d2 w2)), (7, .int (nI (ino L (dNow u) (eof L (dNow u) d w)))), (6, .int (kfl (iK L (dNow u) d2) 2)), (5, .int (eof L (dNow u) d w)), (0, .ref (g 9)), (1, .int (nI d)), (2, .int (nI w)), (3, .int (nI d2)), (4, .int (nI w2))]) hx hb d_Tree_move_83 hl (by decide) rfl (fun ls hl => ?_)
          refine lv_aload_n hx hb d_Tree_move_85 rfl (lv_at hl 4 rfl) ?_
          refine lv_iload hx hb d_Tree_move_86 (lv_at hl 1 rfl) ?_
          refine lv_iload_n hx hb d_Tree_move_88 rfl (lv_at hl 7 rfl) ?_
          refine lv_iload hx hb d_Tree_move_89 (lv_at hl 0 rfl) ?_
          refine gz_muI (As := [.int (nI (ino L (dNow u) (eof L (dNow u) d w))), .int (nI d2), .int (ent L (dNow u) d2 w2)]) (rest := []) (wc := (wT g k L u f0 tl tp)) (w1 := (wT g k L u (mvP L (dNow u) f0 (ino L (dNow u) (eof L (dNow u) d w)) (ent L (dNow u) d2 w2)) tl tp)) (wr := ([])) ⟨hx, hb, hml, hown, hTB⟩ (c_Tree_moveFault l D g k L hL0 hL u f0 tl tp (ino L (dNow u) (eof L (dNow u) d w)) d2 (ent L (dNow u) d2 w2) (by omega)) (cwV 3 hTB (gd_V k_508 k_510 k_12 k_51 k_511) rfl rfl rfl (by decide +kernel) ⟨Nat.le_of_ble_eq_true rfl, Nat.le_of_ble_eq_true rfl⟩) hK hP hD hA [0, 1, 2, 3, 4, 5, 6, 7, 8, 9, 10] [] rfl rfl (by decide) rfl (by decide) (by decide) 0 rfl rfl rfl hl.1 rfl (Nat.le_of_ble_eq_true rfl) d_Tree_move_91 ⟨Nat.zero_le _, Nat.zero_le _⟩ hS (fun H locs hP hD hS => ?_)
          have hP : va_P D cl5 (wT g k L u (mvP L (dNow u) f0 (ino L (dNow u) (eof L (dNow u) d w)) (ent L (dNow u) d2 w2)) tl tp) H := hP
          have hD : va_D A (wT g k L u (mvP L (dNow u) f0 (ino L (dNow u) (eof L (dNow u) d w)) (ent L (dNow u) d2 w2)) tl tp) := hD
          refine lv_istore (lv' := [(6, .int (mvF L (dNow u) f0 (ino L (dNow u) (eof L (dNow u) d w)) d2 (ent L (dNow u) d2 w2))), (8, .int (ent L (dNow u) d2 w2)), (7, .int (nI (ino L (dNow u) (eof L (dNow u) d w)))), (5, .int (eof L (dNow u) d w)), (0, .ref (g 9)), (1, .int (nI d)), (2, .int (nI w)), (3, .int (nI d2)), (4, .int (nI w2))]) hx hb d_Tree_move_94 hl (by decide) rfl (fun ls hl => ?_)
          refine lv_iload hx hb d_Tree_move_96 (lv_at hl 0 rfl) ?_
          refine lv_if_ge (tgt := 104) hx hb d_Tree_move_98 (by decide) (fun h98 => ?_) (fun h98 => ?_)
          · refine lv_aload_n hx hb d_Tree_move_104 rfl (lv_at hl 4 rfl) ?_
            refine va_get (D := D) (ci := 3) (v := .ref (g 7)) (C := R_Tree) (T := T_Tree) (N := 5) hx hb hTB in_Tree hown hK hP 0 rfl rfl 2 (by decide) (hTB _ k_197) (fun _ h9 => h9) rfl d_Tree_move_105 ?_
            refine lv_iload hx hb d_Tree_move_108 (lv_at hl 3 rfl) ?_
            refine gz_muV (As := [.int (eof L (dNow u) d w)]) (rest := []) (wc := (wR g k L u (mvP L (dNow u) f0 (ino L (dNow u) (eof L (dNow u) d w)) (ent L (dNow u) d2 w2)))) (w1 := (wR g k L (stE L u (eof L (dNow u) d w) (nI 0) (nI 0)) (mvP L (dNow u) f0 (ino L (dNow u) (eof L (dNow u) d w)) (ent L (dNow u) d2 w2)))) (wr := (hT g k tl tp)) ⟨hx, hb, hml, hown, hTB⟩ (c_Dirs_clearEntry l D g k L hL0 hL u (mvP L (dNow u) f0 (ino L (dNow u) (eof L (dNow u) d w)) (ent L (dNow u) d2 w2)) (eof L (dNow u) d w)) (cwV 1 hTB (gd_V k_530 k_531 k_532 k_55 k_533) rfl rfl rfl (by decide +kernel) ⟨Nat.le_of_ble_eq_true rfl, Nat.le_of_ble_eq_true rfl⟩) hK hP hD hA [2, 3, 4, 5, 6, 7, 8, 9, 10] [0, 1] rfl rfl (by decide) rfl (by decide) (by decide) 2 rfl rfl rfl hl.1 rfl (Nat.le_of_ble_eq_true rfl) d_Tree_move_110 ⟨Nat.zero_le _, Nat.zero_le _⟩ hS (fun H locs hP hD hS => ?_)
            have hP : va_P D cl5 (wT g k L (stE L u (eof L (dNow u) d w) (nI 0) (nI 0)) (mvP L (dNow u) f0 (ino L (dNow u) (eof L (dNow u) d w)) (ent L (dNow u) d2 w2)) tl tp) H := hP
            have hD : va_D A (wT g k L (stE L u (eof L (dNow u) d w) (nI 0) (nI 0)) (mvP L (dNow u) f0 (ino L (dNow u) (eof L (dNow u) d w)) (ent L (dNow u) d2 w2)) tl tp) := hD
            refine lv_iload hx hb d_Tree_move_113 (lv_at hl 1 rfl) ?_
            refine lv_iconst (v := (-1)) hx hb d_Tree_move_115 (by decide +kernel) ?_
            refine lv_icmp_eq (tgt := 151) hx hb d_Tree_move_116 (by decide) (fun h116 => ?_) (fun h116 => ?_)
            · refine lv_aload_n hx hb d_Tree_move_151 rfl (lv_at hl 4 rfl) ?_
              refine va_get (D := D) (ci := 3) (v := .ref (g 7)) (C := R_Tree) (T := T_Tree) (N := 5) hx hb hTB in_Tree hown hK hP 0 rfl rfl 2 (by decide) (hTB _ k_197) (fun _ h9 => h9) rfl d_Tree_move_152 ?_
              refine lv_iload_n hx hb d_Tree_move_155 rfl (lv_at hl 7 rfl) ?_
              refine lv_iload hx hb d_Tree_move_156 (lv_at hl 8 rfl) ?_
              refine lv_iload hx hb d_Tree_move_158 (lv_at hl 2 rfl) ?_
              refine gz_muI (As := [.int (nI d2), .int (nI w2), .int (nI (ino L (dNow u) (eof L (dNow u) d w)))]) (rest := []) (wc := (wR g k L (stE L u (eof L (dNow u) d w) (nI 0) (nI 0)) (mvP L (dNow u) f0 (ino L (dNow u) (eof L (dNow u) d w)) (ent L (dNow u) d2 w2)))) (w1 := (wR g k L ((adE L (stE L u (eof L (dNow u) d w) (nI 0) (nI 0)) d2 (nI w2) (nI (ino L (dNow u) (eof L (dNow u) d w)))).2) (mvP L (dNow u) f0 (ino L (dNow u) (eof L (dNow u) d w)) (ent L (dNow u) d2 w2)))) (wr := (hT g k tl tp)) ⟨hx, hb, hml, hown, hTB⟩ (c_Dirs_addEntry l D g k L hL0 hL (stE L u (eof L (dNow u) d w) (nI 0) (nI 0)) (mvP L (dNow u) f0 (ino L (dNow u) (eof L (dNow u) d w)) (ent L (dNow u) d2 w2)) d2 (nI w2) (nI (ino L (dNow u) (eof L (dNow u) d w)))) (cwV 3 hTB (gd_V k_386 k_387 k_388 k_55 k_389) rfl rfl rfl (by decide +kernel) ⟨Nat.le_of_ble_eq_true rfl, Nat.le_of_ble_eq_true rfl⟩) hK hP hD hA [2, 3, 4, 5, 6, 7, 8, 9, 10] [0, 1] rfl rfl (by decide) rfl (by decide) (by decide) 2 rfl rfl rfl hl.1 rfl (Nat.le_of_ble_eq_true rfl) d_Tree_move_160 ⟨Nat.zero_le _, Nat.zero_le _⟩ hS (fun H locs hP hD hS => ?_)
              have hP : va_P D cl5 (wT g k L ((adE L (stE L u (eof L (dNow u) d w) (nI 0) (nI 0)) d2 (nI w2) (nI (ino L (dNow u) (eof L (dNow u) d w)))).2) (mvP L (dNow u) f0 (ino L (dNow u) (eof L (dNow u) d w)) (ent L (dNow u) d2 w2)) tl tp) H := hP
              have hD : va_D A (wT g k L ((adE L (stE L u (eof L (dNow u) d w) (nI 0) (nI 0)) d2 (nI w2) (nI (ino L (dNow u) (eof L (dNow u) d w)))).2) (mvP L (dNow u) f0 (ino L (dNow u) (eof L (dNow u) d w)) (ent L (dNow u) d2 w2)) tl tp) := hD
              refine gz_ifz_ne (tgt := 176) hx hb d_Tree_move_163 (by decide) (fun h163 => ?_) (fun h163 => ?_)
              · refine lv_aload_n hx hb d_Tree_move_176 rfl (lv_at hl 4 rfl) ?_
                refine va_get (D := D) (ci := 3) (v := .ref (g 0)) (C := R_Tree) (T := T_Tree) (N := 5) hx hb hTB in_Tree hown hK hP 0 rfl rfl 0 (by decide) (hTB _ k_195) (fun _ h9 => h9) rfl d_Tree_move_177 ?_
                refine gz_muV (As := []) (rest := []) (wc := (wD g k L ((adE L (stE L u (eof L (dNow u) d w) (nI 0) (nI 0)) d2 (nI w2) (nI (ino L (dNow u) (eof L (dNow u) d w)))).2))) (w1 := (wD g k L (stl L ((adE L (stE L u (eof L (dNow u) d w) (nI 0) (nI 0)) d2 (nI w2) (nI (ino L (dNow u) (eof L (dNow u) d w)))).2)))) (wr := (hT g k tl tp ++ (hR g k (mvP L (dNow u) f0 (ino L (dNow u) (eof L (dNow u) d w)) (ent L (dNow u) d2 w2)) ++ hI g))) ⟨hx, hb, hml, hown, hTB⟩ (c_Disk_settle l D g k L hL0 hL ((adE L (stE L u (eof L (dNow u) d w) (nI 0) (nI 0)) d2 (nI w2) (nI (ino L (dNow u) (eof L (dNow u) d w)))).2)) (cwV 0 hTB (gd_V k_156 k_157 k_158 k_52 k_159) rfl rfl rfl (by decide +kernel) ⟨Nat.le_of_ble_eq_true rfl, Nat.le_of_ble_eq_true rfl⟩) hK hP hD hA [5, 6, 7, 8, 9, 10] [0, 1, 2, 3, 4] rfl rfl (by decide) rfl (by decide) (by decide) 5 rfl rfl rfl hl.1 rfl (Nat.le_of_ble_eq_true rfl) d_Tree_move_180 ⟨Nat.zero_le _, Nat.zero_le _⟩ hS (fun H locs hP hD hS => ?_)
                have hP : va_P D cl5 (wT g k L (stl L ((adE L (stE L u (eof L (dNow u) d w) (nI 0) (nI 0)) d2 (nI w2) (nI (ino L (dNow u) (eof L (dNow u) d w)))).2)) (mvP L (dNow u) f0 (ino L (dNow u) (eof L (dNow u) d w)) (ent L (dNow u) d2 w2)) tl tp) H := hP
                have hD : va_D A (wT g k L (stl L ((adE L (stE L u (eof L (dNow u) d w) (nI 0) (nI 0)) d2 (nI w2) (nI (ino L (dNow u) (eof L (dNow u) d w)))).2)) (mvP L (dNow u) f0 (ino L (dNow u) (eof L (dNow u) d w)) (ent L (dNow u) d2 w2)) tl tp) := hD
                refine lv_iconst (v := nI 0) hx hb d_Tree_move_183 (by decide +kernel) ?_
                have hP9 : va_P D cl5 (wT g k L ((mvC L u f0 d w d2 w2).2) (mv2 L (dNow u) f0 d w d2 w2) tl tp) H := (by unfold mvC; rw [if_pos h27, if_pos h43, if_neg hne, if_pos h98]; unfold mvD; rw [if_pos h116, if_pos h163]; unfold mv2; rw [if_pos ⟨h27, h43, hne⟩]; exact hP)
                have hD9 : va_D A (wT g k L ((mvC L u f0 d w d2 w2).2) (mv2 L (dNow u) f0 d w d2 w2) tl tp) := (by unfold mvC; rw [if_pos h27, if_pos h43, if_neg hne, if_pos h98]; unfold mvD; rw [if_pos h116, if_pos h163]; unfold mv2; rw [if_pos ⟨h27, h43, hne⟩]; exact hD)
                exact W.iret (v := nI 0) hx hb hr (fun tt9 ht9 hW9 => ⟨⟨_, (), rfl, (by unfold mvC; rw [if_pos h27, if_pos h43, if_neg hne, if_pos h98]; unfold mvD; rw [if_pos h116, if_pos h163]), ⟨by rw [ht9]; exact hP9, hD9⟩⟩, hS.F ht9⟩) hS.2.2 d_Tree_move_184
              · refine lv_aload_n hx hb d_Tree_move_166 rfl (lv_at hl 4 rfl) ?_
                refine va_get (D := D) (ci := 3) (v := .ref (g 0)) (C := R_Tree) (T := T_Tree) (N := 5) hx hb hTB in_Tree hown hK hP 0 rfl rfl 0 (by decide) (hTB _ k_195) (fun _ h9 => h9) rfl d_Tree_move_167 ?_
                refine gz_muV (As := []) (rest := []) (wc := (wD g k L ((adE L (stE L u (eof L (dNow u) d w) (nI 0) (nI 0)) d2 (nI w2) (nI (ino L (dNow u) (eof L (dNow u) d w)))).2))) (w1 := (wD g k L (und L ((adE L (stE L u (eof L (dNow u) d w) (nI 0) (nI 0)) d2 (nI w2) (nI (ino L (dNow u) (eof L (dNow u) d w)))).2)))) (wr := (hT g k tl tp ++ (hR g k (mvP L (dNow u) f0 (ino L (dNow u) (eof L (dNow u) d w)) (ent L (dNow u) d2 w2)) ++ hI g))) ⟨hx, hb, hml, hown, hTB⟩ (c_Disk_undo l D g k L hL0 hL ((adE L (stE L u (eof L (dNow u) d w) (nI 0) (nI 0)) d2 (nI w2) (nI (ino L (dNow u) (eof L (dNow u) d w)))).2)) (cwV 0 hTB (gd_V k_435 k_436 k_437 k_52 k_438) rfl rfl rfl (by decide +kernel) ⟨Nat.le_of_ble_eq_true rfl, Nat.le_of_ble_eq_true rfl⟩) hK hP hD hA [5, 6, 7, 8, 9, 10] [0, 1, 2, 3, 4] rfl rfl (by decide) rfl (by decide) (by decide) 5 rfl rfl rfl hl.1 rfl (Nat.le_of_ble_eq_true rfl) d_Tree_move_170 ⟨Nat.zero_le _, Nat.zero_le _⟩ hS (fun H locs hP hD hS => ?_)
                have hP : va_P D cl5 (wT g k L (und L ((adE L (stE L u (eof L (dNow u) d w) (nI 0) (nI 0)) d2 (nI w2) (nI (ino L (dNow u) (eof L (dNow u) d w)))).2)) (mvP L (dNow u) f0 (ino L (dNow u) (eof L (dNow u) d w)) (ent L (dNow u) d2 w2)) tl tp) H := hP
                have hD : va_D A (wT g k L (und L ((adE L (stE L u (eof L (dNow u) d w) (nI 0) (nI 0)) d2 (nI w2) (nI (ino L (dNow u) (eof L (dNow u) d w)))).2)) (mvP L (dNow u) f0 (ino L (dNow u) (eof L (dNow u) d w)) (ent L (dNow u) d2 w2)) tl tp) := hD
                refine lv_bipush (v := (-4)) hx hb d_Tree_move_173 (by decide +kernel) ?_
                have hP9 : va_P D cl5 (wT g k L ((mvC L u f0 d w d2 w2).2) (mv2 L (dNow u) f0 d w d2 w2) tl tp) H := (by unfold mvC; rw [if_pos h27, if_pos h43, if_neg hne, if_pos h98]; unfold mvD; rw [if_pos h116, if_neg (by rw [h163]; decide)]; unfold mv2; rw [if_pos ⟨h27, h43, hne⟩]; exact hP)
                have hD9 : va_D A (wT g k L ((mvC L u f0 d w d2 w2).2) (mv2 L (dNow u) f0 d w d2 w2) tl tp) := (by unfold mvC; rw [if_pos h27, if_pos h43, if_neg hne, if_pos h98]; unfold mvD; rw [if_pos h116, if_neg (by rw [h163]; decide)]; unfold mv2; rw [if_pos ⟨h27, h43, hne⟩]; exact hD)
                exact W.iret (v := (-4)) hx hb hr (fun tt9 ht9 hW9 => ⟨⟨_, (), rfl, (by unfold mvC; rw [if_pos h27, if_pos h43, if_neg hne, if_pos h98]; unfold mvD; rw [if_pos h116, if_neg (by rw [h163]; decide)]), ⟨by rw [ht9]; exact hP9, hD9⟩⟩, hS.F ht9⟩) hS.2.2 d_Tree_move_175
            · refine lv_aload_n hx hb d_Tree_move_119 rfl (lv_at hl 4 rfl) ?_
              refine va_get (D := D) (ci := 3) (v := .ref (g 6)) (C := R_Tree) (T := T_Tree) (N := 5) hx hb hTB in_Tree hown hK hP 0 rfl rfl 1 (by decide) (hTB _ k_196) (fun _ h9 => h9) rfl d_Tree_move_120 ?_
              refine lv_aload_n hx hb d_Tree_move_123 rfl (lv_at hl 4 rfl) ?_
              refine va_get (D := D) (ci := 3) (v := .ref (g 7)) (C := R_Tree) (T := T_Tree) (N := 5) hx hb hTB in_Tree hown hK hP 0 rfl rfl 2 (by decide) (hTB _ k_197) (fun _ h9 => h9) rfl d_Tree_move_124 ?_
              refine lv_iload hx hb d_Tree_move_127 (lv_at hl 1 rfl) ?_
              refine gz_roV (As := [.int (ent L (dNow u) d2 w2)]) (rest := [.ref (g 6)]) (wc := (wR g k L (stE L u (eof L (dNow u) d w) (nI 0) (nI 0)) (mvP L (dNow u) f0 (ino L (dNow u) (eof L (dNow u) d w)) (ent L (dNow u) d2 w2)))) ⟨hx, hb, hml, hown, hTB⟩ (c_Dirs_inodeOf l D g k L hL0 hL (stE L u (eof L (dNow u) d w) (nI 0) (nI 0)) (mvP L (dNow u) f0 (ino L (dNow u) (eof L (dNow u) d w)) (ent L (dNow u) d2 w2)) (ent L (dNow u) d2 w2)) (cwV 1 hTB (gd_V k_450 k_451 k_452 k_55 k_453) rfl rfl rfl (by decide +kernel) ⟨Nat.le_of_ble_eq_true rfl, Nat.le_of_ble_eq_true rfl⟩) hK hP [2, 3, 4, 5, 6, 7, 8, 9, 10] rfl 2 rfl rfl rfl hl.1 rfl (Nat.le_of_ble_eq_true rfl) d_Tree_move_129 ⟨Nat.zero_le _, Nat.zero_le _⟩ hS (fun H locs hP hS => ?_)
              have := ino_lt L (dNow (stE L u (eof L (dNow u) d w) (nI 0) (nI 0))) (ent L (dNow u) d2 w2)
              refine gz_muV (As := [.int (nI (ino L (dNow (stE L u (eof L (dNow u) d w) (nI 0) (nI 0))) (ent L (dNow u) d2 w2)))]) (rest := []) (wc := (wI g k L (stE L u (eof L (dNow u) d w) (nI 0) (nI 0)))) (w1 := (wI g k L (rel L (stE L u (eof L (dNow u) d w) (nI 0) (nI 0)) (ino L (dNow (stE L u (eof L (dNow u) d w) (nI 0) (nI 0))) (ent L (dNow u) d2 w2))))) (wr := (hT g k tl tp ++ hR g k (mvP L (dNow u) f0 (ino L (dNow u) (eof L (dNow u) d w)) (ent L (dNow u) d2 w2)))) ⟨hx, hb, hml, hown, hTB⟩ (c_Inodes_release l D g k L hL0 hL (stE L u (eof L (dNow u) d w) (nI 0) (nI 0)) (ino L (dNow (stE L u (eof L (dNow u) d w) (nI 0) (nI 0))) (ent L (dNow u) d2 w2))) (cwV 1 hTB (gd_V k_534 k_535 k_536 k_54 k_537) rfl rfl rfl (by decide +kernel) ⟨Nat.le_of_ble_eq_true rfl, Nat.le_of_ble_eq_true rfl⟩) hK hP hD hA [4, 5, 6, 7, 8, 9, 10] [0, 1, 2, 3] rfl rfl (by decide) rfl (by decide) (by decide) 4 rfl rfl rfl hl.1 rfl (Nat.le_of_ble_eq_true rfl) d_Tree_move_132 ⟨Nat.zero_le _, Nat.zero_le _⟩ hS (fun H locs hP hD hS => ?_)
              have hP : va_P D cl5 (wT g k L (rel L (stE L u (eof L (dNow u) d w) (nI 0) (nI 0)) (ino L (dNow (stE L u (eof L (dNow u) d w) (nI 0) (nI 0))) (ent L (dNow u) d2 w2))) (mvP L (dNow u) f0 (ino L (dNow u) (eof L (dNow u) d w)) (ent L (dNow u) d2 w2)) tl tp) H := hP
              have hD : va_D A (wT g k L (rel L (stE L u (eof L (dNow u) d w) (nI 0) (nI 0)) (ino L (dNow (stE L u (eof L (dNow u) d w) (nI 0) (nI 0))) (ent L (dNow u) d2 w2))) (mvP L (dNow u) f0 (ino L (dNow u) (eof L (dNow u) d w)) (ent L (dNow u) d2 w2)) tl tp) := hD
              refine lv_aload_n hx hb d_Tree_move_135 rfl (lv_at hl 4 rfl) ?_
              refine va_get (D := D) (ci := 3) (v := .ref (g 7)) (C := R_Tree) (T := T_Tree) (N := 5) hx hb hTB in_Tree hown hK hP 0 rfl rfl 2 (by decide) (hTB _ k_197) (fun _ h9 => h9) rfl d_Tree_move_136 ?_
              refine lv_iload hx hb d_Tree_move_139 (lv_at hl 1 rfl) ?_
              refine lv_iload hx hb d_Tree_move_141 (lv_at hl 8 rfl) ?_
              refine lv_iload hx hb d_Tree_move_143 (lv_at hl 2 rfl) ?_
              refine gz_muV (As := [.int (ent L (dNow u) d2 w2), .int (nI w2), .int (nI (ino L (dNow u) (eof L (dNow u) d w)))]) (rest := []) (wc := (wR g k L (rel L (stE L u (eof L (dNow u) d w) (nI 0) (nI 0)) (ino L (dNow (stE L u (eof L (dNow u) d w) (nI 0) (nI 0))) (ent L (dNow u) d2 w2))) (mvP L (dNow u) f0 (ino L (dNow u) (eof L (dNow u) d w)) (ent L (dNow u) d2 w2)))) (w1 := (wR g k L (stE L (rel L (stE L u (eof L (dNow u) d w) (nI 0) (nI 0)) (ino L (dNow (stE L u (eof L (dNow u) d w) (nI 0) (nI 0))) (ent L (dNow u) d2 w2))) (ent L (dNow u) d2 w2) (nI w2) (nI (ino L (dNow u) (eof L (dNow u) d w)))) (mvP L (dNow u) f0 (ino L (dNow u) (eof L (dNow u) d w)) (ent L (dNow u) d2 w2)))) (wr := (hT g k tl tp)) ⟨hx, hb, hml, hown, hTB⟩ (c_Dirs_setEntry l D g k L hL0 hL (rel L (stE L u (eof L (dNow u) d w) (nI 0) (nI 0)) (ino L (dNow (stE L u (eof L (dNow u) d w) (nI 0) (nI 0))) (ent L (dNow u) d2 w2))) (mvP L (dNow u) f0 (ino L (dNow u) (eof L (dNow u) d w)) (ent L (dNow u) d2 w2)) (ent L (dNow u) d2 w2) (nI w2) (nI (ino L (dNow u) (eof L (dNow u) d w)))) (cwV 3 hTB (gd_V k_539 k_430 k_431 k_55 k_432) rfl rfl rfl (by decide +kernel) ⟨Nat.le_of_ble_eq_true rfl, Nat.le_of_ble_eq_true rfl⟩) hK hP hD hA [2, 3, 4, 5, 6, 7, 8, 9, 10] [0, 1] rfl rfl (by decide) rfl (by decide) (by decide) 2 rfl rfl rfl hl.1 rfl (Nat.le_of_ble_eq_true rfl) d_Tree_move_145 ⟨Nat.zero_le _, Nat.zero_le _⟩ hS (fun H locs hP hD hS => ?_)
              have hP : va_P D cl5 (wT g k L (stE L (rel L (stE L u (eof L (dNow u) d w) (nI 0) (nI 0)) (ino L (dNow (stE L u (eof L (dNow u) d w) (nI 0) (nI 0))) (ent L (dNow u) d2 w2))) (ent L (dNow u) d2 w2) (nI w2) (nI (ino L (dNow u) (eof L (dNow u) d w)))) (mvP L (dNow u) f0 (ino L (dNow u) (eof L (dNow u) d w)) (ent L (dNow u) d2 w2)) tl tp) H := hP
              have hD : va_D A (wT g k L (stE L (rel L (stE L u (eof L (dNow u) d w) (nI 0) (nI 0)) (ino L (dNow (stE L u (eof L (dNow u) d w) (nI 0) (nI 0))) (ent L (dNow u) d2 w2))) (ent L (dNow u) d2 w2) (nI w2) (nI (ino L (dNow u) (eof L (dNow u) d w)))) (mvP L (dNow u) f0 (ino L (dNow u) (eof L (dNow u) d w)) (ent L (dNow u) d2 w2)) tl tp) := hD
              refine lv_goto (tgt := 176) hx hb d_Tree_move_148 (by decide) ?_
              refine lv_aload_n hx hb d_Tree_move_176 rfl (lv_at hl 4 rfl) ?_
              refine va_get (D := D) (ci := 3) (v := .ref (g 0)) (C := R_Tree) (T := T_Tree) (N := 5) hx hb hTB in_Tree hown hK hP 0 rfl rfl 0 (by decide) (hTB _ k_195) (fun _ h9 => h9) rfl d_Tree_move_177 ?_
              refine gz_muV (As := []) (rest := []) (wc := (wD g k L (stE L (rel L (stE L u (eof L (dNow u) d w) (nI 0) (nI 0)) (ino L (dNow (stE L u (eof L (dNow u) d w) (nI 0) (nI 0))) (ent L (dNow u) d2 w2))) (ent L (dNow u) d2 w2) (nI w2) (nI (ino L (dNow u) (eof L (dNow u) d w)))))) (w1 := (wD g k L (stl L (stE L (rel L (stE L u (eof L (dNow u) d w) (nI 0) (nI 0)) (ino L (dNow (stE L u (eof L (dNow u) d w) (nI 0) (nI 0))) (ent L (dNow u) d2 w2))) (ent L (dNow u) d2 w2) (nI w2) (nI (ino L (dNow u) (eof L (dNow u) d w))))))) (wr := (hT g k tl tp ++ (hR g k (mvP L (dNow u) f0 (ino L (dNow u) (eof L (dNow u) d w)) (ent L (dNow u) d2 w2)) ++ hI g))) ⟨hx, hb, hml, hown, hTB⟩ (c_Disk_settle l D g k L hL0 hL (stE L (rel L (stE L u (eof L (dNow u) d w) (nI 0) (nI 0)) (ino L (dNow (stE L u (eof L (dNow u) d w) (nI 0) (nI 0))) (ent L (dNow u) d2 w2))) (ent L (dNow u) d2 w2) (nI w2) (nI (ino L (dNow u) (eof L (dNow u) d w))))) (cwV 0 hTB (gd_V k_156 k_157 k_158 k_52 k_159) rfl rfl rfl (by decide +kernel) ⟨Nat.le_of_ble_eq_true rfl, Nat.le_of_ble_eq_true rfl⟩) hK hP hD hA [5, 6, 7, 8, 9, 10] [0, 1, 2, 3, 4] rfl rfl (by decide) rfl (by decide) (by decide) 5 rfl rfl rfl hl.1 rfl (Nat.le_of_ble_eq_true rfl) d_Tree_move_180 ⟨Nat.zero_le _, Nat.zero_le _⟩ hS (fun H locs hP hD hS => ?_)
              have hP : va_P D cl5 (wT g k L (stl L (stE L (rel L (stE L u (eof L (dNow u) d w) (nI 0) (nI 0)) (ino L (dNow (stE L u (eof L (dNow u) d w) (nI 0) (nI 0))) (ent L (dNow u) d2 w2))) (ent L (dNow u) d2 w2) (nI w2) (nI (ino L (dNow u) (eof L (dNow u) d w))))) (mvP L (dNow u) f0 (ino L (dNow u) (eof L (dNow u) d w)) (ent L (dNow u) d2 w2)) tl tp) H := hP
              have hD : va_D A (wT g k L (stl L (stE L (rel L (stE L u (eof L (dNow u) d w) (nI 0) (nI 0)) (ino L (dNow (stE L u (eof L (dNow u) d w) (nI 0) (nI 0))) (ent L (dNow u) d2 w2))) (ent L (dNow u) d2 w2) (nI w2) (nI (ino L (dNow u) (eof L (dNow u) d w))))) (mvP L (dNow u) f0 (ino L (dNow u) (eof L (dNow u) d w)) (ent L (dNow u) d2 w2)) tl tp) := hD
              refine lv_iconst (v := nI 0) hx hb d_Tree_move_183 (by decide +kernel) ?_
              have hP9 : va_P D cl5 (wT g k L ((mvC L u f0 d w d2 w2).2) (mv2 L (dNow u) f0 d w d2 w2) tl tp) H := (by unfold mvC; rw [if_pos h27, if_pos h43, if_neg hne, if_pos h98]; unfold mvD; rw [if_neg h116]; unfold mv2; rw [if_pos ⟨h27, h43, hne⟩]; exact hP)
              have hD9 : va_D A (wT g k L ((mvC L u f0 d w d2 w2).2) (mv2 L (dNow u) f0 d w d2 w2) tl tp) := (by unfold mvC; rw [if_pos h27, if_pos h43, if_neg hne, if_pos h98]; unfold mvD; rw [if_neg h116]; unfold mv2; rw [if_pos ⟨h27, h43, hne⟩]; exact hD)
              exact W.iret (v := nI 0) hx hb hr (fun tt9 ht9 hW9 => ⟨⟨_, (), rfl, (by unfold mvC; rw [if_pos h27, if_pos h43, if_neg hne, if_pos h98]; unfold mvD; rw [if_neg h116]), ⟨by rw [ht9]; exact hP9, hD9⟩⟩, hS.F ht9⟩) hS.2.2 d_Tree_move_184
          · refine lv_iload hx hb d_Tree_move_101 (lv_at hl 0 rfl) ?_
            have hP9 : va_P D cl5 (wT g k L ((mvC L u f0 d w d2 w2).2) (mv2 L (dNow u) f0 d w d2 w2) tl tp) H := (by unfold mvC; rw [if_pos h27, if_pos h43, if_neg hne, if_neg h98]; unfold mv2; rw [if_pos ⟨h27, h43, hne⟩]; exact hP)
            have hD9 : va_D A (wT g k L ((mvC L u f0 d w d2 w2).2) (mv2 L (dNow u) f0 d w d2 w2) tl tp) := (by unfold mvC; rw [if_pos h27, if_pos h43, if_neg hne, if_neg h98]; unfold mv2; rw [if_pos ⟨h27, h43, hne⟩]; exact hD)
            exact W.iret (v := mvF L (dNow u) f0 (ino L (dNow u) (eof L (dNow u) d w)) d2 (ent L (dNow u) d2 w2)) hx hb hr (fun tt9 ht9 hW9 => ⟨⟨_, (), rfl, (by unfold mvC; rw [if_pos h27, if_pos h43, if_neg hne, if_neg h98]), ⟨by rw [ht9]; exact hP9, hD9⟩⟩, hS.F ht9⟩) hS.2.2 d_Tree_move_103
        · refine lv_iconst (v := nI 0) hx hb d_Tree_move_60 (by decide +kernel) ?_
          have hP9 : va_P D cl5 (wT g k L ((mvC L u f0 d w d2 w2).2) (mv2 L (dNow u) f0 d w d2 w2) tl tp) H := (by unfold mvC; rw [if_pos h27, if_pos h43, if_pos ⟨h51, h57⟩]; unfold mv2; rw [if_neg (fun z => z.2.2 ⟨h51, h57⟩)]; exact hP)
          have hD9 : va_D A (wT g k L ((mvC L u f0 d w d2 w2).2) (mv2 L (dNow u) f0 d w d2 w2) tl tp) := (by unfold mvC; rw [if_pos h27, if_pos h43, if_pos ⟨h51, h57⟩]; unfold mv2; rw [if_neg (fun z => z.2.2 ⟨h51, h57⟩)]; exact hD)
          exact W.iret (v := nI 0) hx hb hr (fun tt9 ht9 hW9 => ⟨⟨_, (), rfl, (by unfold mvC; rw [if_pos h27, if_pos h43, if_pos ⟨h51, h57⟩]), ⟨by rw [ht9]; exact hP9, hD9⟩⟩, hS.F ht9⟩) hS.2.2 d_Tree_move_61
    · refine lv_iload hx hb d_Tree_move_46 (lv_at hl 0 rfl) ?_
      have hP9 : va_P D cl5 (wT g k L ((mvC L u f0 d w d2 w2).2) (mv2 L (dNow u) f0 d w d2 w2) tl tp) H := (by unfold mvC; rw [if_pos h27, if_neg h43]; unfold mv2; rw [if_neg (fun z => h43 z.2.1)]; exact hP)
      have hD9 : va_D A (wT g k L ((mvC L u f0 d w d2 w2).2) (mv2 L (dNow u) f0 d w d2 w2) tl tp) := (by unfold mvC; rw [if_pos h27, if_neg h43]; unfold mv2; rw [if_neg (fun z => h43 z.2.1)]; exact hD)
      exact W.iret (v := kfl (iK L (dNow u) d2) 2) hx hb hr (fun tt9 ht9 hW9 => ⟨⟨_, (), rfl, (by unfold mvC; rw [if_pos h27, if_neg h43]), ⟨by rw [ht9]; exact hP9, hD9⟩⟩, hS.F ht9⟩) hS.2.2 d_Tree_move_48
  · refine lv_iload hx hb d_Tree_move_30 (lv_at hl 0 rfl) ?_
    have hP9 : va_P D cl5 (wT g k L ((mvC L u f0 d w d2 w2).2) (mv2 L (dNow u) f0 d w d2 w2) tl tp) H := (by unfold mvC; rw [if_neg h27]; unfold mv2; rw [if_neg (fun z => h27 z.1)]; exact hP)
    have hD9 : va_D A (wT g k L ((mvC L u f0 d w d2 w2).2) (mv2 L (dNow u) f0 d w d2 w2) tl tp) := (by unfold mvC; rw [if_neg h27]; unfold mv2; rw [if_neg (fun z => h27 z.1)]; exact hD)
    exact W.iret (v := eof L (dNow u) d w) hx hb hr (fun tt9 ht9 hW9 => ⟨⟨_, (), rfl, (by unfold mvC; rw [if_neg h27]), ⟨by rw [ht9]; exact hP9, hD9⟩⟩, hS.F ht9⟩) hS.2.2 d_Tree_move_32
theorem d_Tree_remove_0 : decode b_Tree_remove 0 = .ok (.iload_n 1, 1) := by decide +kernel
theorem d_Tree_remove_1 : decode b_Tree_remove 1 = .ok (.invokestatic 66, 3) := by decide +kernel
theorem d_Tree_remove_4 : decode b_Tree_remove 4 = .ok (.iload_n 2, 1) := by decide +kernel
theorem d_Tree_remove_5 : decode b_Tree_remove 5 = .ok (.invokestatic 69, 3) := by decide +kernel
theorem d_Tree_remove_8 : decode b_Tree_remove 8 = .ok (.aload_n 0, 1) := by decide +kernel
theorem d_Tree_remove_9 : decode b_Tree_remove 9 = .ok (.iload_n 1, 1) := by decide +kernel
theorem d_Tree_remove_10 : decode b_Tree_remove 10 = .ok (.iload_n 2, 1) := by decide +kernel
theorem d_Tree_remove_11 : decode b_Tree_remove 11 = .ok (.invokevirtual 90, 3) := by decide +kernel
theorem d_Tree_remove_14 : decode b_Tree_remove 14 = .ok (.istore_n 3, 1) := by decide +kernel
theorem d_Tree_remove_15 : decode b_Tree_remove 15 = .ok (.iload_n 3, 1) := by decide +kernel
theorem d_Tree_remove_16 : decode b_Tree_remove 16 = .ok (.ifCond .ge 5, 3) := by decide +kernel
theorem d_Tree_remove_19 : decode b_Tree_remove 19 = .ok (.iload_n 3, 1) := by decide +kernel
theorem d_Tree_remove_20 : decode b_Tree_remove 20 = .ok (.ireturn, 1) := by decide +kernel
theorem d_Tree_remove_21 : decode b_Tree_remove 21 = .ok (.aload_n 0, 1) := by decide +kernel
theorem d_Tree_remove_22 : decode b_Tree_remove 22 = .ok (.getfield 32, 3) := by decide +kernel
theorem d_Tree_remove_25 : decode b_Tree_remove 25 = .ok (.iload_n 3, 1) := by decide +kernel
theorem d_Tree_remove_26 : decode b_Tree_remove 26 = .ok (.invokevirtual 93, 3) := by decide +kernel
theorem d_Tree_remove_29 : decode b_Tree_remove 29 = .ok (.istore 4, 2) := by decide +kernel
theorem d_Tree_remove_31 : decode b_Tree_remove 31 = .ok (.aload_n 0, 1) := by decide +kernel
theorem d_Tree_remove_32 : decode b_Tree_remove 32 = .ok (.iload 4, 2) := by decide +kernel
theorem d_Tree_remove_34 : decode b_Tree_remove 34 = .ok (.invokevirtual 137, 3) := by decide +kernel
theorem d_Tree_remove_37 : decode b_Tree_remove 37 = .ok (.ifCond .eq 6, 3) := by decide +kernel
theorem d_Tree_remove_40 : decode b_Tree_remove 40 = .ok (.bipush (-6), 2) := by decide +kernel
theorem d_Tree_remove_42 : decode b_Tree_remove 42 = .ok (.ireturn, 1) := by decide +kernel
theorem d_Tree_remove_43 : decode b_Tree_remove 43 = .ok (.aload_n 0, 1) := by decide +kernel
theorem d_Tree_remove_44 : decode b_Tree_remove 44 = .ok (.getfield 32, 3) := by decide +kernel
theorem d_Tree_remove_47 : decode b_Tree_remove 47 = .ok (.iload_n 3, 1) := by decide +kernel
theorem d_Tree_remove_48 : decode b_Tree_remove 48 = .ok (.invokevirtual 127, 3) := by decide +kernel
theorem d_Tree_remove_51 : decode b_Tree_remove 51 = .ok (.aload_n 0, 1) := by decide +kernel
theorem d_Tree_remove_52 : decode b_Tree_remove 52 = .ok (.getfield 23, 3) := by decide +kernel
theorem d_Tree_remove_55 : decode b_Tree_remove 55 = .ok (.iload 4, 2) := by decide +kernel
theorem d_Tree_remove_57 : decode b_Tree_remove 57 = .ok (.invokevirtual 130, 3) := by decide +kernel
theorem d_Tree_remove_60 : decode b_Tree_remove 60 = .ok (.aload_n 0, 1) := by decide +kernel
theorem d_Tree_remove_61 : decode b_Tree_remove 61 = .ok (.getfield 12, 3) := by decide +kernel
theorem d_Tree_remove_64 : decode b_Tree_remove 64 = .ok (.invokevirtual 48, 3) := by decide +kernel
theorem d_Tree_remove_67 : decode b_Tree_remove 67 = .ok (.iconst 0, 1) := by decide +kernel
theorem d_Tree_remove_68 : decode b_Tree_remove 68 = .ok (.ireturn, 1) := by decide +kernel
set_option maxHeartbeats 4000000 in
set_option maxRecDepth 100000 in
theorem c_Tree_remove (l : Launch) (D : va_G) (g : Nat → Nat) (k : Nat → ClassId) (L : Nat) (hL0 : 96 ≤ L) (hL : L ≤ 768) (u : DSt) (f0 : Nat → Int32) (tl : Nat) (tp : Nat → Int32) (d w : Nat) (hd0 : d < 64) (hw1 : 1 ≤ w) (hw2 : w ≤ 65535) : MuI l y_Tree_remove w_Tree_remove ({ frames := 8, cells := 0, slots := 0, locals := 200 }) [.ref (g 9), .int (nI d), .int (nI w)] D cl5 (tyC k) (wT g k L u f0 tl tp) (wT g k L ((rmC L u d w).2) f0 tl tp) ((rmC L u d w).1) := by
  intro sz
  refine Met.ofW (cc := b_Tree_remove) (maxL := 5) (ret := (some .int)) (by decide) rfl ?_
  intro p e s m args below meth c s₁ B hml hv
  obtain ⟨rfl, hsz, hP, hK, hD0⟩ := hv
  have hx := B.exec
  have hb := B.bytes
  have hr := B.returns
  have hts := atoms_spec (ws := w_Tree_remove) B.pre
  have hTB : ∀ w ∈ lw_tb, w.before _ s = true := fun w h => hts w (List.mem_cons_of_mem _ h)
  have hown : s.vm.findClass R_Tree = some m.cls := findClass_of_methodNamed B.named
  have hlocks := B.notSynchronized
  subst hsz
  have hD := hD0.self (sz := s.heap.size)
  generalize hAe : va_A (wT g k L u f0 tl tp) s.heap.size = A at hD ⊢
  have hA : ∀ q : Nat, s.heap.size ≤ q → A q := fun q h => by rw [← hAe]; exact Or.inr h
  have hS : va_S A s.heap s.heap [] := va_S.rf
  have hl := lv_entry ([.ref (g 9), .int (nI d), .int (nI w)]) (n := 5) (Nat.le_of_ble_eq_true rfl)
  rw [lg_entry_eq]
  generalize (lg_sl ([.ref (g 9), .int (nI d), .int (nI w)]) ++ List.replicate (5 - (lg_sl ([.ref (g 9), .int (nI d), .int (nI w)])).length) Slot.unset).toArray = ls at hl ⊢
  have hl : lv_has ls 5 [(0, .ref (g 9)), (1, .int (nI d)), (2, .int (nI w))] := hl
  refine lv_iload_n hx hb d_Tree_remove_0 rfl (lv_at hl 1 rfl) ?_
  refine gz_roSv (As := [.int (nI d)]) (rest := []) ⟨hx, hb, hml, hown, hTB⟩ (c_Tree_checkInode l d (by omega)) (cwS 1 hTB (gd_S k_327 k_328 k_51 k_329) rfl rfl rfl (by decide +kernel) ⟨Nat.le_of_ble_eq_true rfl, Nat.le_of_ble_eq_true rfl⟩) hP rfl hl.1 rfl (Nat.le_of_ble_eq_true rfl) d_Tree_remove_1 ⟨Nat.zero_le _, Nat.zero_le _⟩ hS (fun H locs hP hS => ?_)
  refine lv_iload_n hx hb d_Tree_remove_4 rfl (lv_at hl 2 rfl) ?_
  refine gz_roSv (As := [.int (nI w)]) (rest := []) ⟨hx, hb, hml, hown, hTB⟩ (c_Tree_checkName l w (by omega) (by omega)) (cwS 1 hTB (gd_S k_331 k_332 k_51 k_333) rfl rfl rfl (by decide +kernel) ⟨Nat.le_of_ble_eq_true rfl, Nat.le_of_ble_eq_true rfl⟩) hP rfl hl.1 rfl (Nat.le_of_ble_eq_true rfl) d_Tree_remove_5 ⟨Nat.zero_le _, Nat.zero_le _⟩ hS (fun H locs hP hS => ?_)
  refine lv_aload_n hx hb d_Tree_remove_8 rfl (lv_at hl 0 rfl) ?_
  refine lv_iload_n hx hb d_Tree_remove_9 rfl (lv_at hl 1 rfl) ?_
  refine lv_iload_n hx hb d_Tree_remove_10 rfl (lv_at hl 2 rfl) ?_
  refine gz_roV (As := [.int (nI d), .int (nI w)]) (rest := []) (wc := (wT g k L u f0 tl tp)) ⟨hx, hb, hml, hown, hTB⟩ (c_Tree_entryOrFault l D g k L hL0 hL u f0 tl tp d w (by omega)) (cwV 2 hTB (gd_V k_446 k_448 k_11 k_51 k_449) rfl rfl rfl (by decide +kernel) ⟨Nat.le_of_ble_eq_true rfl, Nat.le_of_ble_eq_true rfl⟩) hK hP [0, 1, 2, 3, 4, 5, 6, 7, 8, 9, 10] rfl 0 rfl rfl rfl hl.1 rfl (Nat.le_of_ble_eq_true rfl) d_Tree_remove_11 ⟨Nat.zero_le _, Nat.zero_le _⟩ hS (fun H locs hP hS => ?_)
  refine lv_istore_n (lv' := [(3, .int (eof L (dNow u) d w)), (0, .ref (g 9)), (1, .int (nI d)), (2, .int (nI w))]) hx hb d_Tree_remove_14 rfl hl (by decide) rfl (fun ls hl => ?_)
  refine lv_iload_n hx hb d_Tree_remove_15 rfl (lv_at hl 0 rfl) ?_
  refine lv_if_ge (tgt := 21) hx hb d_Tree_remove_16 (by decide) (fun h16 => ?_) (fun h16 => ?_)
  · refine lv_aload_n hx hb d_Tree_remove_21 rfl (lv_at hl 1 rfl) ?_
    refine va_get (D := D) (ci := 3) (v := .ref (g 7)) (C := R_Tree) (T := T_Tree) (N := 5) hx hb hTB in_Tree hown hK hP 0 rfl rfl 2 (by decide) (hTB _ k_197) (fun _ h9 => h9) rfl d_Tree_remove_22 ?_
    refine lv_iload_n hx hb d_Tree_remove_25 rfl (lv_at hl 0 rfl) ?_
    refine gz_roV (As := [.int (eof L (dNow u) d w)]) (rest := []) (wc := (wR g k L u f0)) ⟨hx, hb, hml, hown, hTB⟩ (c_Dirs_inodeOf l D g k L hL0 hL u f0 (eof L (dNow u) d w)) (cwV 1 hTB (gd_V k_450 k_451 k_452 k_55 k_453) rfl rfl rfl (by decide +kernel) ⟨Nat.le_of_ble_eq_true rfl, Nat.le_of_ble_eq_true rfl⟩) hK hP [2, 3, 4, 5, 6, 7, 8, 9, 10] rfl 2 rfl rfl rfl hl.1 rfl (Nat.le_of_ble_eq_true rfl) d_Tree_remove_26 ⟨Nat.zero_le _, Nat.zero_le _⟩ hS (fun H locs hP hS => ?_)
    have := ino_lt L (dNow u) (eof L (dNow u) d w)
    refine lv_istore (lv' := [(4, .int (nI (ino L (dNow u) (eof L (dNow u) d w)))), (3, .int (eof L (dNow u) d w)), (0, .ref (g 9)), (1, .int (nI d)), (2, .int (nI w))]) hx hb d_Tree_remove_29 hl (by decide) rfl (fun ls hl => ?_)
    refine lv_aload_n hx hb d_Tree_remove_31 rfl (lv_at hl 2 rfl) ?_
    refine lv_iload hx hb d_Tree_remove_32 (lv_at hl 0 rfl) ?_
    refine gz_roV (As := [.int (nI (ino L (dNow u) (eof L (dNow u) d w)))]) (rest := []) (wc := (wT g k L u f0 tl tp)) ⟨hx, hb, hml, hown, hTB⟩ (c_Tree_hasEntries l D g k L hL0 hL u f0 tl tp (ino L (dNow u) (eof L (dNow u) d w))) (cwV 1 hTB (gd_V k_512 k_514 k_13 k_51 k_515) rfl rfl rfl (by decide +kernel) ⟨Nat.le_of_ble_eq_true rfl, Nat.le_of_ble_eq_true rfl⟩) hK hP [0, 1, 2, 3, 4, 5, 6, 7, 8, 9, 10] rfl 0 rfl rfl rfl hl.1 rfl (Nat.le_of_ble_eq_true rfl) d_Tree_remove_34 ⟨Nat.zero_le _, Nat.zero_le _⟩ hS (fun H locs hP hS => ?_)
    refine gz_ifz_eq (tgt := 43) hx hb d_Tree_remove_37 (by decide) (fun h37 => ?_) (fun h37 => ?_)
    · refine lv_aload_n hx hb d_Tree_remove_43 rfl (lv_at hl 2 rfl) ?_
      refine va_get (D := D) (ci := 3) (v := .ref (g 7)) (C := R_Tree) (T := T_Tree) (N := 5) hx hb hTB in_Tree hown hK hP 0 rfl rfl 2 (by decide) (hTB _ k_197) (fun _ h9 => h9) rfl d_Tree_remove_44 ?_
      refine lv_iload_n hx hb d_Tree_remove_47 rfl (lv_at hl 1 rfl) ?_
      refine gz_muV (As := [.int (eof L (dNow u) d w)]) (rest := []) (wc := (wR g k L u f0)) (w1 := (wR g k L (stE L u (eof L (dNow u) d w) (nI 0) (nI 0)) f0)) (wr := (hT g k tl tp)) ⟨hx, hb, hml, hown, hTB⟩ (c_Dirs_clearEntry l D g k L hL0 hL u f0 (eof L (dNow u) d w)) (cwV 1 hTB (gd_V k_530 k_531 k_532 k_55 k_533) rfl rfl rfl (by decide +kernel) ⟨Nat.le_of_ble_eq_true rfl, Nat.le_of_ble_eq_true rfl⟩) hK hP hD hA [2, 3, 4, 5, 6, 7, 8, 9, 10] [0, 1] rfl rfl (by decide) rfl (by decide) (by decide) 2 rfl rfl rfl hl.1 rfl (Nat.le_of_ble_eq_true rfl) d_Tree_remove_48 ⟨Nat.zero_le _, Nat.zero_le _⟩ hS (fun H locs hP hD hS => ?_)
      have hP : va_P D cl5 (wT g k L (stE L u (eof L (dNow u) d w) (nI 0) (nI 0)) f0 tl tp) H := hP
      have hD : va_D A (wT g k L (stE L u (eof L (dNow u) d w) (nI 0) (nI 0)) f0 tl tp) := hD
      refine lv_aload_n hx hb d_Tree_remove_51 rfl (lv_at hl 2 rfl) ?_
      refine va_get (D := D) (ci := 3) (v := .ref (g 6)) (C := R_Tree) (T := T_Tree) (N := 5) hx hb hTB in_Tree hown hK hP 0 rfl rfl 1 (by decide) (hTB _ k_196) (fun _ h9 => h9) rfl d_Tree_remove_52 ?_
      refine lv_iload hx hb d_Tree_remove_55 (lv_at hl 0 rfl) ?_
      refine gz_muV (As := [.int (nI (ino L (dNow u) (eof L (dNow u) d w)))]) (rest := []) (wc := (wI g k L (stE L u (eof L (dNow u) d w) (nI 0) (nI 0)))) (w1 := (wI g k L (rel L (stE L u (eof L (dNow u) d w) (nI 0) (nI 0)) (ino L (dNow u) (eof L (dNow u) d w))))) (wr := (hT g k tl tp ++ hR g k f0)) ⟨hx, hb, hml, hown, hTB⟩ (c_Inodes_release l D g k L hL0 hL (stE L u (eof L (dNow u) d w) (nI 0) (nI 0)) (ino L (dNow u) (eof L (dNow u) d w))) (cwV 1 hTB (gd_V k_534 k_535 k_536 k_54 k_537) rfl rfl rfl (by decide +kernel) ⟨Nat.le_of_ble_eq_true rfl, Nat.le_of_ble_eq_true rfl⟩) hK hP hD hA [4, 5, 6, 7, 8, 9, 10] [0, 1, 2, 3] rfl rfl (by decide) rfl (by decide) (by decide) 4 rfl rfl rfl hl.1 rfl (Nat.le_of_ble_eq_true rfl) d_Tree_remove_57 ⟨Nat.zero_le _, Nat.zero_le _⟩ hS (fun H locs hP hD hS => ?_)
      have hP : va_P D cl5 (wT g k L (rel L (stE L u (eof L (dNow u) d w) (nI 0) (nI 0)) (ino L (dNow u) (eof L (dNow u) d w))) f0 tl tp) H := hP
      have hD : va_D A (wT g k L (rel L (stE L u (eof L (dNow u) d w) (nI 0) (nI 0)) (ino L (dNow u) (eof L (dNow u) d w))) f0 tl tp) := hD
      refine lv_aload_n hx hb d_Tree_remove_60 rfl (lv_at hl 2 rfl) ?_
      refine va_get (D := D) (ci := 3) (v := .ref (g 0)) (C := R_Tree) (T := T_Tree) (N := 5) hx hb hTB in_Tree hown hK hP 0 rfl rfl 0 (by decide) (hTB _ k_195) (fun _ h9 => h9) rfl d_Tree_remove_61 ?_
      refine gz_muV (As := []) (rest := []) (wc := (wD g k L (rel L (stE L u (eof L (dNow u) d w) (nI 0) (nI 0)) (ino L (dNow u) (eof L (dNow u) d w))))) (w1 := (wD g k L (stl L (rel L (stE L u (eof L (dNow u) d w) (nI 0) (nI 0)) (ino L (dNow u) (eof L (dNow u) d w)))))) (wr := (hT g k tl tp ++ (hR g k f0 ++ hI g))) ⟨hx, hb, hml, hown, hTB⟩ (c_Disk_settle l D g k L hL0 hL (rel L (stE L u (eof L (dNow u) d w) (nI 0) (nI 0)) (ino L (dNow u) (eof L (dNow u) d w)))) (cwV 0 hTB (gd_V k_156 k_157 k_158 k_52 k_159) rfl rfl rfl (by decide +kernel) ⟨Nat.le_of_ble_eq_true rfl, Nat.le_of_ble_eq_true rfl⟩) hK hP hD hA [5, 6, 7, 8, 9, 10] [0, 1, 2, 3, 4] rfl rfl (by decide) rfl (by decide) (by decide) 5 rfl rfl rfl hl.1 rfl (Nat.le_of_ble_eq_true rfl) d_Tree_remove_64 ⟨Nat.zero_le _, Nat.zero_le _⟩ hS (fun H locs hP hD hS => ?_)
      have hP : va_P D cl5 (wT g k L (stl L (rel L (stE L u (eof L (dNow u) d w) (nI 0) (nI 0)) (ino L (dNow u) (eof L (dNow u) d w)))) f0 tl tp) H := hP
      have hD : va_D A (wT g k L (stl L (rel L (stE L u (eof L (dNow u) d w) (nI 0) (nI 0)) (ino L (dNow u) (eof L (dNow u) d w)))) f0 tl tp) := hD
      refine lv_iconst (v := nI 0) hx hb d_Tree_remove_67 (by decide +kernel) ?_
      have hP9 : va_P D cl5 (wT g k L ((rmC L u d w).2) f0 tl tp) H := (by unfold rmC; rw [if_pos h16, if_neg (by rw [h37]; decide)]; exact hP)
      have hD9 : va_D A (wT g k L ((rmC L u d w).2) f0 tl tp) := (by unfold rmC; rw [if_pos h16, if_neg (by rw [h37]; decide)]; exact hD)
      exact W.iret (v := nI 0) hx hb hr (fun tt9 ht9 hW9 => ⟨⟨_, (), rfl, (by unfold rmC; rw [if_pos h16, if_neg (by rw [h37]; decide)]), ⟨by rw [ht9]; exact hP9, hD9⟩⟩, hS.F ht9⟩) hS.2.2 d_Tree_remove_68
    · refine lv_bipush (v := (-6)) hx hb d_Tree_remove_40 (by decide +kernel) ?_
      have hP9 : va_P D cl5 (wT g k L ((rmC L u d w).2) f0 tl tp) H := (by unfold rmC; rw [if_pos h16, if_pos h37]; exact hP)
      have hD9 : va_D A (wT g k L ((rmC L u d w).2) f0 tl tp) := (by unfold rmC; rw [if_pos h16, if_pos h37]; exact hD)
      exact W.iret (v := (-6)) hx hb hr (fun tt9 ht9 hW9 => ⟨⟨_, (), rfl, (by unfold rmC; rw [if_pos h16, if_pos h37]), ⟨by rw [ht9]; exact hP9, hD9⟩⟩, hS.F ht9⟩) hS.2.2 d_Tree_remove_42
  · refine lv_iload_n hx hb d_Tree_remove_19 rfl (lv_at hl 0 rfl) ?_
    have hP9 : va_P D cl5 (wT g k L ((rmC L u d w).2) f0 tl tp) H := (by unfold rmC; rw [if_neg h16]; exact hP)
    have hD9 : va_D A (wT g k L ((rmC L u d w).2) f0 tl tp) := (by unfold rmC; rw [if_neg h16]; exact hD)
    exact W.iret (v := eof L (dNow u) d w) hx hb hr (fun tt9 ht9 hW9 => ⟨⟨_, (), rfl, (by unfold rmC; rw [if_neg h16]), ⟨by rw [ht9]; exact hP9, hD9⟩⟩, hS.F ht9⟩) hS.2.2 d_Tree_remove_20
theorem d_Tree_node_0 : decode b_Tree_node 0 = .ok (.iload_n 1, 1) := by decide +kernel
theorem d_Tree_node_1 : decode b_Tree_node 1 = .ok (.invokestatic 66, 3) := by decide +kernel
theorem d_Tree_node_4 : decode b_Tree_node 4 = .ok (.iload_n 2, 1) := by decide +kernel
theorem d_Tree_node_5 : decode b_Tree_node 5 = .ok (.ifCond .lt 19, 3) := by decide +kernel
theorem d_Tree_node_8 : decode b_Tree_node 8 = .ok (.iload_n 2, 1) := by decide +kernel
theorem d_Tree_node_9 : decode b_Tree_node 9 = .ok (.iconst 3, 1) := by decide +kernel
theorem d_Tree_node_10 : decode b_Tree_node 10 = .ok (.iconst 2, 1) := by decide +kernel
theorem d_Tree_node_11 : decode b_Tree_node 11 = .ok (.aload_n 0, 1) := by decide +kernel
theorem d_Tree_node_12 : decode b_Tree_node 12 = .ok (.getfield 23, 3) := by decide +kernel
theorem d_Tree_node_15 : decode b_Tree_node 15 = .ok (.iload_n 1, 1) := by decide +kernel
theorem d_Tree_node_16 : decode b_Tree_node 16 = .ok (.invokevirtual 147, 3) := by decide +kernel
theorem d_Tree_node_19 : decode b_Tree_node 19 = .ok (.imul, 1) := by decide +kernel
theorem d_Tree_node_20 : decode b_Tree_node 20 = .ok (.iadd, 1) := by decide +kernel
theorem d_Tree_node_21 : decode b_Tree_node 21 = .ok (.if_icmp .lt 13, 3) := by decide +kernel
theorem d_Tree_node_24 : decode b_Tree_node 24 = .ok (.new 115, 3) := by decide +kernel
theorem d_Tree_node_27 : decode b_Tree_node 27 = .ok (.dup, 1) := by decide +kernel
theorem d_Tree_node_28 : decode b_Tree_node 28 = .ok (.ldc 150, 2) := by decide +kernel
theorem d_Tree_node_30 : decode b_Tree_node 30 = .ok (.invokespecial 119, 3) := by decide +kernel
theorem d_Tree_node_33 : decode b_Tree_node 33 = .ok (.athrow, 1) := by decide +kernel
theorem d_Tree_node_34 : decode b_Tree_node 34 = .ok (.iload_n 2, 1) := by decide +kernel
theorem d_Tree_node_35 : decode b_Tree_node 35 = .ok (.tableswitch 52 0 2 #[25, 34, 43], 25) := by decide +kernel
theorem d_Tree_node_60 : decode b_Tree_node 60 = .ok (.aload_n 0, 1) := by decide +kernel
theorem d_Tree_node_61 : decode b_Tree_node 61 = .ok (.getfield 23, 3) := by decide +kernel
theorem d_Tree_node_64 : decode b_Tree_node 64 = .ok (.iload_n 1, 1) := by decide +kernel
theorem d_Tree_node_65 : decode b_Tree_node 65 = .ok (.invokevirtual 152, 3) := by decide +kernel
theorem d_Tree_node_68 : decode b_Tree_node 68 = .ok (.ireturn, 1) := by decide +kernel
theorem d_Tree_node_69 : decode b_Tree_node 69 = .ok (.aload_n 0, 1) := by decide +kernel
theorem d_Tree_node_70 : decode b_Tree_node 70 = .ok (.getfield 23, 3) := by decide +kernel
theorem d_Tree_node_73 : decode b_Tree_node 73 = .ok (.iload_n 1, 1) := by decide +kernel
theorem d_Tree_node_74 : decode b_Tree_node 74 = .ok (.invokevirtual 97, 3) := by decide +kernel
theorem d_Tree_node_77 : decode b_Tree_node 77 = .ok (.ireturn, 1) := by decide +kernel
theorem d_Tree_node_78 : decode b_Tree_node 78 = .ok (.aload_n 0, 1) := by decide +kernel
theorem d_Tree_node_79 : decode b_Tree_node 79 = .ok (.getfield 23, 3) := by decide +kernel
theorem d_Tree_node_82 : decode b_Tree_node 82 = .ok (.iload_n 1, 1) := by decide +kernel
theorem d_Tree_node_83 : decode b_Tree_node 83 = .ok (.invokevirtual 147, 3) := by decide +kernel
theorem d_Tree_node_86 : decode b_Tree_node 86 = .ok (.ireturn, 1) := by decide +kernel
theorem d_Tree_node_87 : decode b_Tree_node 87 = .ok (.iload_n 2, 1) := by decide +kernel
theorem d_Tree_node_88 : decode b_Tree_node 88 = .ok (.iconst 3, 1) := by decide +kernel
theorem d_Tree_node_89 : decode b_Tree_node 89 = .ok (.isub, 1) := by decide +kernel
theorem d_Tree_node_90 : decode b_Tree_node 90 = .ok (.iconst 2, 1) := by decide +kernel
theorem d_Tree_node_91 : decode b_Tree_node 91 = .ok (.idiv, 1) := by decide +kernel
theorem d_Tree_node_92 : decode b_Tree_node 92 = .ok (.istore_n 3, 1) := by decide +kernel
theorem d_Tree_node_93 : decode b_Tree_node 93 = .ok (.iload_n 2, 1) := by decide +kernel
theorem d_Tree_node_94 : decode b_Tree_node 94 = .ok (.iconst 2, 1) := by decide +kernel
theorem d_Tree_node_95 : decode b_Tree_node 95 = .ok (.irem, 1) := by decide +kernel
theorem d_Tree_node_96 : decode b_Tree_node 96 = .ok (.iconst 1, 1) := by decide +kernel
theorem d_Tree_node_97 : decode b_Tree_node 97 = .ok (.if_icmp .ne 15, 3) := by decide +kernel
theorem d_Tree_node_100 : decode b_Tree_node 100 = .ok (.aload_n 0, 1) := by decide +kernel
theorem d_Tree_node_101 : decode b_Tree_node 101 = .ok (.getfield 23, 3) := by decide +kernel
theorem d_Tree_node_104 : decode b_Tree_node 104 = .ok (.iload_n 1, 1) := by decide +kernel
theorem d_Tree_node_105 : decode b_Tree_node 105 = .ok (.iload_n 3, 1) := by decide +kernel
theorem d_Tree_node_106 : decode b_Tree_node 106 = .ok (.invokevirtual 155, 3) := by decide +kernel
theorem d_Tree_node_109 : decode b_Tree_node 109 = .ok (.goto 12, 3) := by decide +kernel
theorem d_Tree_node_112 : decode b_Tree_node 112 = .ok (.aload_n 0, 1) := by decide +kernel
theorem d_Tree_node_113 : decode b_Tree_node 113 = .ok (.getfield 23, 3) := by decide +kernel
theorem d_Tree_node_116 : decode b_Tree_node 116 = .ok (.iload_n 1, 1) := by decide +kernel
theorem d_Tree_node_117 : decode b_Tree_node 117 = .ok (.iload_n 3, 1) := by decide +kernel
theorem d_Tree_node_118 : decode b_Tree_node 118 = .ok (.invokevirtual 158, 3) := by decide +kernel
theorem d_Tree_node_121 : decode b_Tree_node 121 = .ok (.ireturn, 1) := by decide +kernel
set_option maxHeartbeats 4000000 in
set_option maxRecDepth 100000 in
theorem c_Tree_node (l : Launch) (D : va_G) (g : Nat → Nat) (k : Nat → ClassId) (L : Nat) (hL0 : 96 ≤ L) (hL : L ≤ 768) (u : DSt) (f0 : Nat → Int32) (tl : Nat) (tp : Nat → Int32) (i w : Nat) (hi0 : i < 64) (hw0 : w < 3 + 2 * iX L (dNow u) i) : RoI l y_Tree_node w_Tree_node ({ frames := 8, cells := 0, slots := 0, locals := 130 }) [.ref (g 9), .int (nI i), .int (nI w)] (RoP D cl5 (tyC k) (wT g k L u f0 tl tp)) (nI (ndC L (dNow u) i w)) := by
  refine Met.ofW (cc := b_Tree_node) (maxL := 4) (ret := (some .int)) (by decide) rfl ?_
  intro p e s m args below meth c s₁ B hml hv
  obtain ⟨rfl, hP, hK⟩ := hv
  have hx := B.exec
  have hb := B.bytes
  have hr := B.returns
  have hts := atoms_spec (ws := w_Tree_node) B.pre
  have hTB : ∀ w ∈ lw_tb, w.before _ s = true := fun w h => hts w (List.mem_cons_of_mem _ h)
  have hown : s.vm.findClass R_Tree = some m.cls := findClass_of_methodNamed B.named
  have hlocks := B.notSynchronized
  have hS : va_S (fun _ => False) s.heap s.heap [] := va_S.rf
  have hl := lv_entry ([.ref (g 9), .int (nI i), .int (nI w)]) (n := 4) (Nat.le_of_ble_eq_true rfl)
  rw [lg_entry_eq]
  generalize (lg_sl ([.ref (g 9), .int (nI i), .int (nI w)]) ++ List.replicate (4 - (lg_sl ([.ref (g 9), .int (nI i), .int (nI w)])).length) Slot.unset).toArray = ls at hl ⊢
  have hl : lv_has ls 4 [(0, .ref (g 9)), (1, .int (nI i)), (2, .int (nI w))] := hl
  have hix0 := iX_lt L (dNow u) i
  refine lv_iload_n hx hb d_Tree_node_0 rfl (lv_at hl 1 rfl) ?_
  refine gz_roSv (As := [.int (nI i)]) (rest := []) ⟨hx, hb, hml, hown, hTB⟩ (c_Tree_checkInode l i (by omega)) (cwS 1 hTB (gd_S k_327 k_328 k_51 k_329) rfl rfl rfl (by decide +kernel) ⟨Nat.le_of_ble_eq_true rfl, Nat.le_of_ble_eq_true rfl⟩) hP rfl hl.1 rfl (Nat.le_of_ble_eq_true rfl) d_Tree_node_1 ⟨Nat.zero_le _, Nat.zero_le _⟩ hS (fun H locs hP hS => ?_)
  refine lv_iload_n hx hb d_Tree_node_4 rfl (lv_at hl 2 rfl) ?_
  refine gz_if_lt (tgt := 24) hx hb d_Tree_node_5 (by decide) (by omega) ?_
  refine lv_iload_n hx hb d_Tree_node_8 rfl (lv_at hl 2 rfl) ?_
  refine lv_iconst (v := nI 3) hx hb d_Tree_node_9 (by decide +kernel) ?_
  refine lv_iconst (v := nI 2) hx hb d_Tree_node_10 (by decide +kernel) ?_
  refine lv_aload_n hx hb d_Tree_node_11 rfl (lv_at hl 0 rfl) ?_
  refine va_get (D := D) (ci := 3) (v := .ref (g 6)) (C := R_Tree) (T := T_Tree) (N := 5) hx hb hTB in_Tree hown hK hP 0 rfl rfl 1 (by decide) (hTB _ k_196) (fun _ h9 => h9) rfl d_Tree_node_12 ?_
  refine lv_iload_n hx hb d_Tree_node_15 rfl (lv_at hl 1 rfl) ?_
  refine gz_roV (As := [.int (nI i)]) (rest := [.int (nI 2), .int (nI 3), .int (nI w)]) (wc := (wI g k L u)) ⟨hx, hb, hml, hown, hTB⟩ (c_Inodes_extents l D g k L hL0 hL u i) (cwV 1 hTB (gd_V k_554 k_366 k_367 k_54 k_368) rfl rfl rfl (by decide +kernel) ⟨Nat.le_of_ble_eq_true rfl, Nat.le_of_ble_eq_true rfl⟩) hK hP [4, 5, 6, 7, 8, 9, 10] rfl 4 rfl rfl rfl hl.1 rfl (Nat.le_of_ble_eq_true rfl) d_Tree_node_16 ⟨Nat.zero_le _, Nat.zero_le _⟩ hS (fun H locs hP hS => ?_)
  have := iX_lt L (dNow u) i
  refine gz_imul hx hb d_Tree_node_19 ?_
  refine gz_iadd hx hb d_Tree_node_20 ?_
  refine gz_icmp_lt (tgt := 34) hx hb d_Tree_node_21 (by decide) (by omega) (by omega) (fun h21 => ?_) (fun h21 => ?_)
  · refine lv_iload_n hx hb d_Tree_node_34 rfl (lv_at hl 2 rfl) ?_
    rcases (show w = 0 ∨ w = 1 ∨ w = 2 ∨ 2 < w by omega) with h35 | h35 | h35 | h35
    · refine lv_tableIn (off := 25) (tgt := 60) hx hb d_Tree_node_35 (by rw [h35]; decide) (by rw [h35]; decide) (by rw [h35]; decide +kernel) (by decide) ?_
      refine lv_aload_n hx hb d_Tree_node_60 rfl (lv_at hl 0 rfl) ?_
      refine va_get (D := D) (ci := 3) (v := .ref (g 6)) (C := R_Tree) (T := T_Tree) (N := 5) hx hb hTB in_Tree hown hK hP 0 rfl rfl 1 (by decide) (hTB _ k_196) (fun _ h9 => h9) rfl d_Tree_node_61 ?_
      refine lv_iload_n hx hb d_Tree_node_64 rfl (lv_at hl 1 rfl) ?_
      refine gz_roV (As := [.int (nI i)]) (rest := []) (wc := (wI g k L u)) ⟨hx, hb, hml, hown, hTB⟩ (c_Inodes_kind l D g k L hL0 hL u i) (cwV 1 hTB (gd_V k_340 k_341 k_342 k_54 k_343) rfl rfl rfl (by decide +kernel) ⟨Nat.le_of_ble_eq_true rfl, Nat.le_of_ble_eq_true rfl⟩) hK hP [4, 5, 6, 7, 8, 9, 10] rfl 4 rfl rfl rfl hl.1 rfl (Nat.le_of_ble_eq_true rfl) d_Tree_node_65 ⟨Nat.zero_le _, Nat.zero_le _⟩ hS (fun H locs hP hS => ?_)
      have := iK_lt L (dNow u) i
      exact W.iret (v := nI (iK L (dNow u) i)) hx hb hr (fun tt9 ht9 hW9 => ⟨⟨_, (), rfl, (by unfold ndC; rw [if_pos h35]), trivial⟩, hS.F ht9⟩) hS.2.2 d_Tree_node_68
    · refine lv_tableIn (off := 34) (tgt := 69) hx hb d_Tree_node_35 (by rw [h35]; decide) (by rw [h35]; decide) (by rw [h35]; decide +kernel) (by decide) ?_
      refine lv_aload_n hx hb d_Tree_node_69 rfl (lv_at hl 0 rfl) ?_
      refine va_get (D := D) (ci := 3) (v := .ref (g 6)) (C := R_Tree) (T := T_Tree) (N := 5) hx hb hTB in_Tree hown hK hP 0 rfl rfl 1 (by decide) (hTB _ k_196) (fun _ h9 => h9) rfl d_Tree_node_70 ?_
      refine lv_iload_n hx hb d_Tree_node_73 rfl (lv_at hl 1 rfl) ?_
      refine gz_roV (As := [.int (nI i)]) (rest := []) (wc := (wI g k L u)) ⟨hx, hb, hml, hown, hTB⟩ (c_Inodes_size l D g k L hL0 hL u i) (cwV 1 hTB (gd_V k_462 k_353 k_354 k_54 k_355) rfl rfl rfl (by decide +kernel) ⟨Nat.le_of_ble_eq_true rfl, Nat.le_of_ble_eq_true rfl⟩) hK hP [4, 5, 6, 7, 8, 9, 10] rfl 4 rfl rfl rfl hl.1 rfl (Nat.le_of_ble_eq_true rfl) d_Tree_node_74 ⟨Nat.zero_le _, Nat.zero_le _⟩ hS (fun H locs hP hS => ?_)
      have := iS_lt L (dNow u) i
      exact W.iret (v := nI (iS L (dNow u) i)) hx hb hr (fun tt9 ht9 hW9 => ⟨⟨_, (), rfl, (by unfold ndC; rw [if_neg (by omega), if_pos h35]), trivial⟩, hS.F ht9⟩) hS.2.2 d_Tree_node_77
    · refine lv_tableIn (off := 43) (tgt := 78) hx hb d_Tree_node_35 (by rw [h35]; decide) (by rw [h35]; decide) (by rw [h35]; decide +kernel) (by decide) ?_
      refine lv_aload_n hx hb d_Tree_node_78 rfl (lv_at hl 0 rfl) ?_
      refine va_get (D := D) (ci := 3) (v := .ref (g 6)) (C := R_Tree) (T := T_Tree) (N := 5) hx hb hTB in_Tree hown hK hP 0 rfl rfl 1 (by decide) (hTB _ k_196) (fun _ h9 => h9) rfl d_Tree_node_79 ?_
      refine lv_iload_n hx hb d_Tree_node_82 rfl (lv_at hl 1 rfl) ?_
      refine gz_roV (As := [.int (nI i)]) (rest := []) (wc := (wI g k L u)) ⟨hx, hb, hml, hown, hTB⟩ (c_Inodes_extents l D g k L hL0 hL u i) (cwV 1 hTB (gd_V k_554 k_366 k_367 k_54 k_368) rfl rfl rfl (by decide +kernel) ⟨Nat.le_of_ble_eq_true rfl, Nat.le_of_ble_eq_true rfl⟩) hK hP [4, 5, 6, 7, 8, 9, 10] rfl 4 rfl rfl rfl hl.1 rfl (Nat.le_of_ble_eq_true rfl) d_Tree_node_83 ⟨Nat.zero_le _, Nat.zero_le _⟩ hS (fun H locs hP hS => ?_)
      have := iX_lt L (dNow u) i
      exact W.iret (v := nI (iX L (dNow u) i)) hx hb hr (fun tt9 ht9 hW9 => ⟨⟨_, (), rfl, (by unfold ndC; rw [if_neg (by omega), if_neg (by omega), if_pos h35]), trivial⟩, hS.F ht9⟩) hS.2.2 d_Tree_node_86
    · refine lv_tableOut (tgt := 87) hx hb d_Tree_node_35 (Or.inr (by rw [nI_toInt (by omega)]; omega)) (by decide) ?_
      refine lv_iload_n hx hb d_Tree_node_87 rfl (lv_at hl 2 rfl) ?_
      refine lv_iconst (v := nI 3) hx hb d_Tree_node_88 (by decide +kernel) ?_
      refine gz_isub hx hb d_Tree_node_89 (by omega) ?_
      refine lv_iconst (v := nI 2) hx hb d_Tree_node_90 (by decide +kernel) ?_
      refine gz_idiv hx hb d_Tree_node_91 (by omega) (by decide) (by decide) ?_
      refine lv_istore_n (lv' := [(3, .int (nI ((w - 3) / 2))), (0, .ref (g 9)), (1, .int (nI i)), (2, .int (nI w))]) hx hb d_Tree_node_92 rfl hl (by decide) rfl (fun ls hl => ?_)
      refine lv_iload_n hx hb d_Tree_node_93 rfl (lv_at hl 3 rfl) ?_
      refine lv_iconst (v := nI 2) hx hb d_Tree_node_94 (by decide +kernel) ?_
      refine gz_irem hx hb d_Tree_node_95 (by omega) (by decide) (by decide) ?_
      refine lv_iconst (v := nI 1) hx hb d_Tree_node_96 (by decide +kernel) ?_
      refine gz_icmp_ne (tgt := 112) hx hb d_Tree_node_97 (by decide) (by omega) (by omega) (fun h97 => ?_) (fun h97 => ?_)
      · refine lv_aload_n hx hb d_Tree_node_112 rfl (lv_at hl 1 rfl) ?_
        refine va_get (D := D) (ci := 3) (v := .ref (g 6)) (C := R_Tree) (T := T_Tree) (N := 5) hx hb hTB in_Tree hown hK hP 0 rfl rfl 1 (by decide) (hTB _ k_196) (fun _ h9 => h9) rfl d_Tree_node_113 ?_
        refine lv_iload_n hx hb d_Tree_node_116 rfl (lv_at hl 2 rfl) ?_
        refine lv_iload_n hx hb d_Tree_node_117 rfl (lv_at hl 0 rfl) ?_
        refine gz_roV (As := [.int (nI i), .int (nI ((w - 3) / 2))]) (rest := []) (wc := (wI g k L u)) ⟨hx, hb, hml, hown, hTB⟩ (c_Inodes_extentLength l D g k L hL0 hL u i ((w - 3) / 2)) (cwV 2 hTB (gd_V k_557 k_370 k_371 k_54 k_372) rfl rfl rfl (by decide +kernel) ⟨Nat.le_of_ble_eq_true rfl, Nat.le_of_ble_eq_true rfl⟩) hK hP [4, 5, 6, 7, 8, 9, 10] rfl 4 rfl rfl rfl hl.1 rfl (Nat.le_of_ble_eq_true rfl) d_Tree_node_118 ⟨Nat.zero_le _, Nat.zero_le _⟩ hS (fun H locs hP hS => ?_)
        have := xL_lt L (dNow u) i ((w - 3) / 2)
        exact W.iret (v := nI (xL L (dNow u) i ((w - 3) / 2))) hx hb hr (fun tt9 ht9 hW9 => ⟨⟨_, (), rfl, (by unfold ndC; rw [if_neg (by omega), if_neg (by omega), if_neg (by omega), if_neg h97]), trivial⟩, hS.F ht9⟩) hS.2.2 d_Tree_node_121
      · refine lv_aload_n hx hb d_Tree_node_100 rfl (lv_at hl 1 rfl) ?_
        refine va_get (D := D) (ci := 3) (v := .ref (g 6)) (C := R_Tree) (T := T_Tree) (N := 5) hx hb hTB in_Tree hown hK hP 0 rfl rfl 1 (by decide) (hTB _ k_196) (fun _ h9 => h9) rfl d_Tree_node_101 ?_
        refine lv_iload_n hx hb d_Tree_node_104 rfl (lv_at hl 2 rfl) ?_
        refine lv_iload_n hx hb d_Tree_node_105 rfl (lv_at hl 0 rfl) ?_
        refine gz_roV (As := [.int (nI i), .int (nI ((w - 3) / 2))]) (rest := []) (wc := (wI g k L u)) ⟨hx, hb, hml, hown, hTB⟩ (c_Inodes_extentFirst l D g k L hL0 hL u i ((w - 3) / 2)) (cwV 2 hTB (gd_V k_556 k_377 k_378 k_54 k_379) rfl rfl rfl (by decide +kernel) ⟨Nat.le_of_ble_eq_true rfl, Nat.le_of_ble_eq_true rfl⟩) hK hP [4, 5, 6, 7, 8, 9, 10] rfl 4 rfl rfl rfl hl.1 rfl (Nat.le_of_ble_eq_true rfl) d_Tree_node_106 ⟨Nat.zero_le _, Nat.zero_le _⟩ hS (fun H locs hP hS => ?_)
        have := xF_lt L (dNow u) i ((w - 3) / 2)
        refine lv_goto (tgt := 121) hx hb d_Tree_node_109 (by decide) ?_
        exact W.iret (v := nI (xF L (dNow u) i ((w - 3) / 2))) hx hb hr (fun tt9 ht9 hW9 => ⟨⟨_, (), rfl, (by unfold ndC; rw [if_neg (by omega), if_neg (by omega), if_neg (by omega), if_pos h97]), trivial⟩, hS.F ht9⟩) hS.2.2 d_Tree_node_121
  · exact absurd h21 (by omega)
theorem d_Tree_at_0 : decode b_Tree_at 0 = .ok (.aload_n 0, 1) := by decide +kernel
theorem d_Tree_at_1 : decode b_Tree_at 1 = .ok (.getfield 12, 3) := by decide +kernel
theorem d_Tree_at_4 : decode b_Tree_at 4 = .ok (.iload_n 1, 1) := by decide +kernel
theorem d_Tree_at_5 : decode b_Tree_at 5 = .ok (.iload_n 2, 1) := by decide +kernel
theorem d_Tree_at_6 : decode b_Tree_at 6 = .ok (.invokevirtual 161, 3) := by decide +kernel
theorem d_Tree_at_9 : decode b_Tree_at 9 = .ok (.ifCond .ne 13, 3) := by decide +kernel
theorem d_Tree_at_12 : decode b_Tree_at 12 = .ok (.new 54, 3) := by decide +kernel
theorem d_Tree_at_15 : decode b_Tree_at 15 = .ok (.dup, 1) := by decide +kernel
theorem d_Tree_at_16 : decode b_Tree_at 16 = .ok (.ldc 164, 2) := by decide +kernel
theorem d_Tree_at_18 : decode b_Tree_at 18 = .ok (.invokespecial 58, 3) := by decide +kernel
theorem d_Tree_at_21 : decode b_Tree_at 21 = .ok (.athrow, 1) := by decide +kernel
theorem d_Tree_at_22 : decode b_Tree_at 22 = .ok (.iload_n 1, 1) := by decide +kernel
theorem d_Tree_at_23 : decode b_Tree_at 23 = .ok (.bipush 64, 2) := by decide +kernel
theorem d_Tree_at_25 : decode b_Tree_at 25 = .ok (.imul, 1) := by decide +kernel
theorem d_Tree_at_26 : decode b_Tree_at 26 = .ok (.iload_n 2, 1) := by decide +kernel
theorem d_Tree_at_27 : decode b_Tree_at 27 = .ok (.iadd, 1) := by decide +kernel
theorem d_Tree_at_28 : decode b_Tree_at 28 = .ok (.istore 4, 2) := by decide +kernel
theorem d_Tree_at_30 : decode b_Tree_at 30 = .ok (.iload_n 3, 1) := by decide +kernel
theorem d_Tree_at_31 : decode b_Tree_at 31 = .ok (.ifCond .eq 15, 3) := by decide +kernel
theorem d_Tree_at_34 : decode b_Tree_at 34 = .ok (.aload_n 0, 1) := by decide +kernel
theorem d_Tree_at_35 : decode b_Tree_at 35 = .ok (.getfield 12, 3) := by decide +kernel
theorem d_Tree_at_38 : decode b_Tree_at 38 = .ok (.iload 4, 2) := by decide +kernel
theorem d_Tree_at_40 : decode b_Tree_at 40 = .ok (.invokevirtual 166, 3) := by decide +kernel
theorem d_Tree_at_43 : decode b_Tree_at 43 = .ok (.goto 12, 3) := by decide +kernel
theorem d_Tree_at_46 : decode b_Tree_at 46 = .ok (.aload_n 0, 1) := by decide +kernel
theorem d_Tree_at_47 : decode b_Tree_at 47 = .ok (.getfield 12, 3) := by decide +kernel
theorem d_Tree_at_50 : decode b_Tree_at 50 = .ok (.iload 4, 2) := by decide +kernel
theorem d_Tree_at_52 : decode b_Tree_at 52 = .ok (.invokevirtual 120, 3) := by decide +kernel
theorem d_Tree_at_55 : decode b_Tree_at 55 = .ok (.ireturn, 1) := by decide +kernel
set_option maxHeartbeats 4000000 in
set_option maxRecDepth 100000 in
theorem c_Tree_at (l : Launch) (D : va_G) (g : Nat → Nat) (k : Nat → ClassId) (L : Nat) (hL0 : 96 ≤ L) (hL : L ≤ 768) (u : DSt) (f0 : Nat → Int32) (tl : Nat) (tp : Nat → Int32) (b j : Nat) (cm : Bool) (hb0 : b < L) (hj0 : j < 64) : RoI l y_Tree_at w_Tree_at ({ frames := 7, cells := 0, slots := 0, locals := 110 }) [.ref (g 9), .int (nI b), .int (nI j), .int (zI (cm))] (RoP D cl5 (tyC k) (wT g k L u f0 tl tp)) (nI (if cm then bN L (dCom u) (nI (b * 64 + j)) else bN L (dNow u) (nI (b * 64 + j)))) := by
  refine Met.ofW (cc := b_Tree_at) (maxL := 5) (ret := (some .int)) (by decide) rfl ?_
  intro p e s m args below meth c s₁ B hml hv
  obtain ⟨rfl, hP, hK⟩ := hv
  have hx := B.exec
  have hb := B.bytes
  have hr := B.returns
  have hts := atoms_spec (ws := w_Tree_at) B.pre
  have hTB : ∀ w ∈ lw_tb, w.before _ s = true := fun w h => hts w (List.mem_cons_of_mem _ h)
  have hown : s.vm.findClass R_Tree = some m.cls := findClass_of_methodNamed B.named
  have hlocks := B.notSynchronized
  have hS : va_S (fun _ => False) s.heap s.heap [] := va_S.rf
  have hl := lv_entry ([.ref (g 9), .int (nI b), .int (nI j), .int (zI (cm))]) (n := 5) (Nat.le_of_ble_eq_true rfl)
  rw [lg_entry_eq]
  generalize (lg_sl ([.ref (g 9), .int (nI b), .int (nI j), .int (zI (cm))]) ++ List.replicate (5 - (lg_sl ([.ref (g 9), .int (nI b), .int (nI j), .int (zI (cm))])).length) Slot.unset).toArray = ls at hl ⊢
  have hl : lv_has ls 5 [(0, .ref (g 9)), (1, .int (nI b)), (2, .int (nI j)), (3, .int (zI (cm)))] := hl
  refine lv_aload_n hx hb d_Tree_at_0 rfl (lv_at hl 0 rfl) ?_
  refine va_get (D := D) (ci := 3) (v := .ref (g 0)) (C := R_Tree) (T := T_Tree) (N := 5) hx hb hTB in_Tree hown hK hP 0 rfl rfl 0 (by decide) (hTB _ k_195) (fun _ h9 => h9) rfl d_Tree_at_1 ?_
  refine lv_iload_n hx hb d_Tree_at_4 rfl (lv_at hl 1 rfl) ?_
  refine lv_iload_n hx hb d_Tree_at_5 rfl (lv_at hl 2 rfl) ?_
  refine gz_roV (As := [.int (nI b), .int (nI j)]) (rest := []) (wc := (wD g k L u)) ⟨hx, hb, hml, hown, hTB⟩ (c_Disk_hasByte l D g k L hL0 hL u (nI b) (nI j)) (cwV 2 hTB (gd_V k_565 k_566 k_567 k_52 k_568) rfl rfl rfl (by decide +kernel) ⟨Nat.le_of_ble_eq_true rfl, Nat.le_of_ble_eq_true rfl⟩) hK hP [5, 6, 7, 8, 9, 10] rfl 5 rfl rfl rfl hl.1 rfl (Nat.le_of_ble_eq_true rfl) d_Tree_at_6 ⟨Nat.zero_le _, Nat.zero_le _⟩ hS (fun H locs hP hS => ?_)
  refine gz_ifz_ne (tgt := 22) hx hb d_Tree_at_9 (by decide) (fun h9 => ?_) (fun h9 => ?_)
  · refine lv_iload_n hx hb d_Tree_at_22 rfl (lv_at hl 1 rfl) ?_
    refine lv_bipush (v := nI 64) hx hb d_Tree_at_23 (by decide +kernel) ?_
    refine gz_imul hx hb d_Tree_at_25 ?_
    refine lv_iload_n hx hb d_Tree_at_26 rfl (lv_at hl 2 rfl) ?_
    refine gz_iadd hx hb d_Tree_at_27 ?_
    refine lv_istore (lv' := [(4, .int (nI ((b * 64) + j))), (0, .ref (g 9)), (1, .int (nI b)), (2, .int (nI j)), (3, .int (zI (cm)))]) hx hb d_Tree_at_28 hl (by decide) rfl (fun ls hl => ?_)
    refine lv_iload_n hx hb d_Tree_at_30 rfl (lv_at hl 4 rfl) ?_
    refine gz_ifz_eq (tgt := 46) hx hb d_Tree_at_31 (by decide) (fun h31 => ?_) (fun h31 => ?_)
    · refine lv_aload_n hx hb d_Tree_at_46 rfl (lv_at hl 1 rfl) ?_
      refine va_get (D := D) (ci := 3) (v := .ref (g 0)) (C := R_Tree) (T := T_Tree) (N := 5) hx hb hTB in_Tree hown hK hP 0 rfl rfl 0 (by decide) (hTB _ k_195) (fun _ h9 => h9) rfl d_Tree_at_47 ?_
      refine lv_iload hx hb d_Tree_at_50 (lv_at hl 0 rfl) ?_
      refine gz_roV (As := [.int (nI ((b * 64) + j))]) (rest := []) (wc := (wD g k L u)) ⟨hx, hb, hml, hown, hTB⟩ (c_Disk_byteAt l D g k L hL0 hL u (nI ((b * 64) + j))) (cwV 1 hTB (gd_V k_500 k_345 k_346 k_52 k_347) rfl rfl rfl (by decide +kernel) ⟨Nat.le_of_ble_eq_true rfl, Nat.le_of_ble_eq_true rfl⟩) hK hP [5, 6, 7, 8, 9, 10] rfl 5 rfl rfl rfl hl.1 rfl (Nat.le_of_ble_eq_true rfl) d_Tree_at_52 ⟨Nat.zero_le _, Nat.zero_le _⟩ hS (fun H locs hP hS => ?_)
      have := bN_lt L (dNow u) (nI ((b * 64) + j))
      exact W.iret (v := nI (bN L (dNow u) (nI ((b * 64) + j)))) hx hb hr (fun tt9 ht9 hW9 => ⟨⟨_, (), rfl, (by rw [h31]; rfl), trivial⟩, hS.F ht9⟩) hS.2.2 d_Tree_at_55
    · refine lv_aload_n hx hb d_Tree_at_34 rfl (lv_at hl 1 rfl) ?_
      refine va_get (D := D) (ci := 3) (v := .ref (g 0)) (C := R_Tree) (T := T_Tree) (N := 5) hx hb hTB in_Tree hown hK hP 0 rfl rfl 0 (by decide) (hTB _ k_195) (fun _ h9 => h9) rfl d_Tree_at_35 ?_
      refine lv_iload hx hb d_Tree_at_38 (lv_at hl 0 rfl) ?_
      refine gz_roV (As := [.int (nI ((b * 64) + j))]) (rest := []) (wc := (wD g k L u)) ⟨hx, hb, hml, hown, hTB⟩ (c_Disk_committedByteAt l D g k L hL0 hL u (nI ((b * 64) + j))) (cwV 1 hTB (gd_V k_570 k_571 k_572 k_52 k_573) rfl rfl rfl (by decide +kernel) ⟨Nat.le_of_ble_eq_true rfl, Nat.le_of_ble_eq_true rfl⟩) hK hP [5, 6, 7, 8, 9, 10] rfl 5 rfl rfl rfl hl.1 rfl (Nat.le_of_ble_eq_true rfl) d_Tree_at_40 ⟨Nat.zero_le _, Nat.zero_le _⟩ hS (fun H locs hP hS => ?_)
      have := bN_lt L (dCom u) (nI ((b * 64) + j))
      refine lv_goto (tgt := 55) hx hb d_Tree_at_43 (by decide) ?_
      exact W.iret (v := nI (bN L (dCom u) (nI ((b * 64) + j)))) hx hb hr (fun tt9 ht9 hW9 => ⟨⟨_, (), rfl, (by rw [h31]; rfl), trivial⟩, hS.F ht9⟩) hS.2.2 d_Tree_at_55
  · exact absurd (hby_in hb0 hj0 hL) (by rw [h9]; decide)
theorem d_Tree_changed_0 : decode b_Tree_changed 0 = .ok (.aload_n 0, 1) := by decide +kernel
theorem d_Tree_changed_1 : decode b_Tree_changed 1 = .ok (.getfield 12, 3) := by decide +kernel
theorem d_Tree_changed_4 : decode b_Tree_changed 4 = .ok (.iload_n 1, 1) := by decide +kernel
theorem d_Tree_changed_5 : decode b_Tree_changed 5 = .ok (.invokevirtual 169, 3) := by decide +kernel
theorem d_Tree_changed_8 : decode b_Tree_changed 8 = .ok (.istore_n 2, 1) := by decide +kernel
theorem d_Tree_changed_9 : decode b_Tree_changed 9 = .ok (.iload_n 2, 1) := by decide +kernel
theorem d_Tree_changed_10 : decode b_Tree_changed 10 = .ok (.iconst (-1), 1) := by decide +kernel
theorem d_Tree_changed_11 : decode b_Tree_changed 11 = .ok (.if_icmp .ne 13, 3) := by decide +kernel
theorem d_Tree_changed_14 : decode b_Tree_changed 14 = .ok (.new 115, 3) := by decide +kernel
theorem d_Tree_changed_17 : decode b_Tree_changed 17 = .ok (.dup, 1) := by decide +kernel
theorem d_Tree_changed_18 : decode b_Tree_changed 18 = .ok (.ldc 172, 2) := by decide +kernel
theorem d_Tree_changed_20 : decode b_Tree_changed 20 = .ok (.invokespecial 119, 3) := by decide +kernel
theorem d_Tree_changed_23 : decode b_Tree_changed 23 = .ok (.athrow, 1) := by decide +kernel
theorem d_Tree_changed_24 : decode b_Tree_changed 24 = .ok (.iload_n 2, 1) := by decide +kernel
theorem d_Tree_changed_25 : decode b_Tree_changed 25 = .ok (.ireturn, 1) := by decide +kernel
set_option maxHeartbeats 4000000 in
set_option maxRecDepth 100000 in
theorem c_Tree_changed (l : Launch) (D : va_G) (g : Nat → Nat) (k : Nat → ClassId) (L : Nat) (hL0 : 96 ≤ L) (hL : L ≤ 768) (u : DSt) (f0 : Nat → Int32) (tl : Nat) (tp : Nat → Int32) (x : Int32) (hx0 : ¬ dbk L (dDif u) x = -1) : RoI l y_Tree_changed w_Tree_changed ({ frames := 7, cells := 0, slots := 0, locals := 110 }) [.ref (g 9), .int (x)] (RoP D cl5 (tyC k) (wT g k L u f0 tl tp)) (dbk L (dDif u) x) := by
  refine Met.ofW (cc := b_Tree_changed) (maxL := 3) (ret := (some .int)) (by decide) rfl ?_
  intro p e s m args below meth c s₁ B hml hv
  obtain ⟨rfl, hP, hK⟩ := hv
  have hx := B.exec
  have hb := B.bytes
  have hr := B.returns
  have hts := atoms_spec (ws := w_Tree_changed) B.pre
  have hTB : ∀ w ∈ lw_tb, w.before _ s = true := fun w h => hts w (List.mem_cons_of_mem _ h)
  have hown : s.vm.findClass R_Tree = some m.cls := findClass_of_methodNamed B.named
  have hlocks := B.notSynchronized
  have hS : va_S (fun _ => False) s.heap s.heap [] := va_S.rf
  have hl := lv_entry ([.ref (g 9), .int (x)]) (n := 3) (Nat.le_of_ble_eq_true rfl)
  rw [lg_entry_eq]
  generalize (lg_sl ([.ref (g 9), .int (x)]) ++ List.replicate (3 - (lg_sl ([.ref (g 9), .int (x)])).length) Slot.unset).toArray = ls at hl ⊢
  have hl : lv_has ls 3 [(0, .ref (g 9)), (1, .int (x))] := hl
  refine lv_aload_n hx hb d_Tree_changed_0 rfl (lv_at hl 0 rfl) ?_
  refine va_get (D := D) (ci := 3) (v := .ref (g 0)) (C := R_Tree) (T := T_Tree) (N := 5) hx hb hTB in_Tree hown hK hP 0 rfl rfl 0 (by decide) (hTB _ k_195) (fun _ h9 => h9) rfl d_Tree_changed_1 ?_
  refine lv_iload_n hx hb d_Tree_changed_4 rfl (lv_at hl 1 rfl) ?_
  refine gz_roV (As := [.int (x)]) (rest := []) (wc := (wD g k L u)) ⟨hx, hb, hml, hown, hTB⟩ (c_Disk_differingBlock l D g k L hL0 hL u x) (cwV 1 hTB (gd_V k_581 k_582 k_583 k_52 k_584) rfl rfl rfl (by decide +kernel) ⟨Nat.le_of_ble_eq_true rfl, Nat.le_of_ble_eq_true rfl⟩) hK hP [5, 6, 7, 8, 9, 10] rfl 5 rfl rfl rfl hl.1 rfl (Nat.le_of_ble_eq_true rfl) d_Tree_changed_5 ⟨Nat.zero_le _, Nat.zero_le _⟩ hS (fun H locs hP hS => ?_)
  refine lv_istore_n (lv' := [(2, .int (dbk L (dDif u) x)), (0, .ref (g 9)), (1, .int (x))]) hx hb d_Tree_changed_8 rfl hl (by decide) rfl (fun ls hl => ?_)
  refine lv_iload_n hx hb d_Tree_changed_9 rfl (lv_at hl 0 rfl) ?_
  refine lv_iconst (v := (-1)) hx hb d_Tree_changed_10 (by decide +kernel) ?_
  refine lv_icmp_ne (tgt := 24) hx hb d_Tree_changed_11 (by decide) (fun h11 => ?_) (fun h11 => ?_)
  · refine lv_iload_n hx hb d_Tree_changed_24 rfl (lv_at hl 0 rfl) ?_
    exact W.iret (v := dbk L (dDif u) x) hx hb hr (fun tt9 ht9 hW9 => ⟨⟨_, (), rfl, rfl, trivial⟩, hS.F ht9⟩) hS.2.2 d_Tree_changed_25
  · exact absurd h11 hx0
theorem d_Tree_look_0 : decode b_Tree_look 0 = .ok (.iload_n 1, 1) := by decide +kernel
theorem d_Tree_look_1 : decode b_Tree_look 1 = .ok (.tableswitch 98 0 6 #[43, 51, 59, 68, 76, 84, 89], 43) := by decide +kernel
theorem d_Tree_look_44 : decode b_Tree_look 44 = .ok (.aload_n 0, 1) := by decide +kernel
theorem d_Tree_look_45 : decode b_Tree_look 45 = .ok (.getfield 12, 3) := by decide +kernel
theorem d_Tree_look_48 : decode b_Tree_look 48 = .ok (.invokevirtual 174, 3) := by decide +kernel
theorem d_Tree_look_51 : decode b_Tree_look 51 = .ok (.ireturn, 1) := by decide +kernel
theorem d_Tree_look_52 : decode b_Tree_look 52 = .ok (.aload_n 0, 1) := by decide +kernel
theorem d_Tree_look_53 : decode b_Tree_look 53 = .ok (.getfield 12, 3) := by decide +kernel
theorem d_Tree_look_56 : decode b_Tree_look 56 = .ok (.invokevirtual 177, 3) := by decide +kernel
theorem d_Tree_look_59 : decode b_Tree_look 59 = .ok (.ireturn, 1) := by decide +kernel
theorem d_Tree_look_60 : decode b_Tree_look 60 = .ok (.aload_n 0, 1) := by decide +kernel
theorem d_Tree_look_61 : decode b_Tree_look 61 = .ok (.getfield 23, 3) := by decide +kernel
theorem d_Tree_look_64 : decode b_Tree_look 64 = .ok (.iconst 0, 1) := by decide +kernel
theorem d_Tree_look_65 : decode b_Tree_look 65 = .ok (.invokevirtual 180, 3) := by decide +kernel
theorem d_Tree_look_68 : decode b_Tree_look 68 = .ok (.ireturn, 1) := by decide +kernel
theorem d_Tree_look_69 : decode b_Tree_look 69 = .ok (.aload_n 0, 1) := by decide +kernel
theorem d_Tree_look_70 : decode b_Tree_look 70 = .ok (.getfield 12, 3) := by decide +kernel
theorem d_Tree_look_73 : decode b_Tree_look 73 = .ok (.invokevirtual 141, 3) := by decide +kernel
theorem d_Tree_look_76 : decode b_Tree_look 76 = .ok (.ireturn, 1) := by decide +kernel
theorem d_Tree_look_77 : decode b_Tree_look 77 = .ok (.aload_n 0, 1) := by decide +kernel
theorem d_Tree_look_78 : decode b_Tree_look 78 = .ok (.getfield 12, 3) := by decide +kernel
theorem d_Tree_look_81 : decode b_Tree_look 81 = .ok (.invokevirtual 183, 3) := by decide +kernel
theorem d_Tree_look_84 : decode b_Tree_look 84 = .ok (.ireturn, 1) := by decide +kernel
theorem d_Tree_look_85 : decode b_Tree_look 85 = .ok (.aload_n 0, 1) := by decide +kernel
theorem d_Tree_look_86 : decode b_Tree_look 86 = .ok (.getfield 40, 3) := by decide +kernel
theorem d_Tree_look_89 : decode b_Tree_look 89 = .ok (.ireturn, 1) := by decide +kernel
theorem d_Tree_look_90 : decode b_Tree_look 90 = .ok (.aload_n 0, 1) := by decide +kernel
theorem d_Tree_look_91 : decode b_Tree_look 91 = .ok (.getfield 23, 3) := by decide +kernel
theorem d_Tree_look_94 : decode b_Tree_look 94 = .ok (.iconst 2, 1) := by decide +kernel
theorem d_Tree_look_95 : decode b_Tree_look 95 = .ok (.invokevirtual 180, 3) := by decide +kernel
theorem d_Tree_look_98 : decode b_Tree_look 98 = .ok (.ireturn, 1) := by decide +kernel
theorem d_Tree_look_99 : decode b_Tree_look 99 = .ok (.new 115, 3) := by decide +kernel
theorem d_Tree_look_102 : decode b_Tree_look 102 = .ok (.dup, 1) := by decide +kernel
theorem d_Tree_look_103 : decode b_Tree_look 103 = .ok (.ldc 186, 2) := by decide +kernel
theorem d_Tree_look_105 : decode b_Tree_look 105 = .ok (.invokespecial 119, 3) := by decide +kernel
theorem d_Tree_look_108 : decode b_Tree_look 108 = .ok (.athrow, 1) := by decide +kernel
set_option maxHeartbeats 4000000 in
set_option maxRecDepth 100000 in
theorem c_Tree_look (l : Launch) (D : va_G) (g : Nat → Nat) (k : Nat → ClassId) (L : Nat) (hL0 : 96 ≤ L) (hL : L ≤ 768) (u : DSt) (f0 : Nat → Int32) (tl : Nat) (tp : Nat → Int32) (w : Nat) (hw0 : w ≤ 6) : RoI l y_Tree_look w_Tree_look ({ frames := 7, cells := 0, slots := 0, locals := 110 }) [.ref (g 9), .int (nI w)] (RoP D cl5 (tyC k) (wT g k L u f0 tl tp)) (lkC L u tl w) := by
  refine Met.ofW (cc := b_Tree_look) (maxL := 2) (ret := (some .int)) (by decide) rfl ?_
  intro p e s m args below meth c s₁ B hml hv
  obtain ⟨rfl, hP, hK⟩ := hv
  have hx := B.exec
  have hb := B.bytes
  have hr := B.returns
  have hts := atoms_spec (ws := w_Tree_look) B.pre
  have hTB : ∀ w ∈ lw_tb, w.before _ s = true := fun w h => hts w (List.mem_cons_of_mem _ h)
  have hown : s.vm.findClass R_Tree = some m.cls := findClass_of_methodNamed B.named
  have hlocks := B.notSynchronized
  have hS : va_S (fun _ => False) s.heap s.heap [] := va_S.rf
  have hl := lv_entry ([.ref (g 9), .int (nI w)]) (n := 2) (Nat.le_of_ble_eq_true rfl)
  rw [lg_entry_eq]
  generalize (lg_sl ([.ref (g 9), .int (nI w)]) ++ List.replicate (2 - (lg_sl ([.ref (g 9), .int (nI w)])).length) Slot.unset).toArray = ls at hl ⊢
  have hl : lv_has ls 2 [(0, .ref (g 9)), (1, .int (nI w))] := hl
  refine lv_iload_n hx hb d_Tree_look_0 rfl (lv_at hl 1 rfl) ?_
  rcases (show w = 0 ∨ w = 1 ∨ w = 2 ∨ w = 3 ∨ w = 4 ∨ w = 5 ∨ w = 6 ∨ 6 < w by omega) with h1 | h1 | h1 | h1 | h1 | h1 | h1 | h1
  · refine lv_tableIn (off := 43) (tgt := 44) hx hb d_Tree_look_1 (by rw [h1]; decide) (by rw [h1]; decide) (by rw [h1]; decide +kernel) (by decide) ?_
    refine lv_aload_n hx hb d_Tree_look_44 rfl (lv_at hl 0 rfl) ?_
    refine va_get (D := D) (ci := 3) (v := .ref (g 0)) (C := R_Tree) (T := T_Tree) (N := 5) hx hb hTB in_Tree hown hK hP 0 rfl rfl 0 (by decide) (hTB _ k_195) (fun _ h9 => h9) rfl d_Tree_look_45 ?_
    refine gz_roV (As := []) (rest := []) (wc := (wD g k L u)) ⟨hx, hb, hml, hown, hTB⟩ (c_Disk_blocks l D g k L hL0 hL u) (cwV 0 hTB (gd_V k_593 k_594 k_595 k_52 k_596) rfl rfl rfl (by decide +kernel) ⟨Nat.le_of_ble_eq_true rfl, Nat.le_of_ble_eq_true rfl⟩) hK hP [5, 6, 7, 8, 9, 10] rfl 5 rfl rfl rfl hl.1 rfl (Nat.le_of_ble_eq_true rfl) d_Tree_look_48 ⟨Nat.zero_le _, Nat.zero_le _⟩ hS (fun H locs hP hS => ?_)
    exact W.iret (v := nI L) hx hb hr (fun tt9 ht9 hW9 => ⟨⟨_, (), rfl, (by subst h1; rfl), trivial⟩, hS.F ht9⟩) hS.2.2 d_Tree_look_51
  · refine lv_tableIn (off := 51) (tgt := 52) hx hb d_Tree_look_1 (by rw [h1]; decide) (by rw [h1]; decide) (by rw [h1]; decide +kernel) (by decide) ?_
    refine lv_aload_n hx hb d_Tree_look_52 rfl (lv_at hl 0 rfl) ?_
    refine va_get (D := D) (ci := 3) (v := .ref (g 0)) (C := R_Tree) (T := T_Tree) (N := 5) hx hb hTB in_Tree hown hK hP 0 rfl rfl 0 (by decide) (hTB _ k_195) (fun _ h9 => h9) rfl d_Tree_look_53 ?_
    refine gz_roV (As := []) (rest := []) (wc := (wD g k L u)) ⟨hx, hb, hml, hown, hTB⟩ (c_Disk_freeBlocks l D g k L hL0 hL u) (cwV 0 hTB (gd_V k_597 k_598 k_599 k_52 k_600) rfl rfl rfl (by decide +kernel) ⟨Nat.le_of_ble_eq_true rfl, Nat.le_of_ble_eq_true rfl⟩) hK hP [5, 6, 7, 8, 9, 10] rfl 5 rfl rfl rfl hl.1 rfl (Nat.le_of_ble_eq_true rfl) d_Tree_look_56 ⟨Nat.zero_le _, Nat.zero_le _⟩ hS (fun H locs hP hS => ?_)
    exact W.iret (v := nI (fbs L (dNow u))) hx hb hr (fun tt9 ht9 hW9 => ⟨⟨_, (), rfl, (by subst h1; rfl), trivial⟩, hS.F ht9⟩) hS.2.2 d_Tree_look_59
  · refine lv_tableIn (off := 59) (tgt := 60) hx hb d_Tree_look_1 (by rw [h1]; decide) (by rw [h1]; decide) (by rw [h1]; decide +kernel) (by decide) ?_
    refine lv_aload_n hx hb d_Tree_look_60 rfl (lv_at hl 0 rfl) ?_
    refine va_get (D := D) (ci := 3) (v := .ref (g 6)) (C := R_Tree) (T := T_Tree) (N := 5) hx hb hTB in_Tree hown hK hP 0 rfl rfl 1 (by decide) (hTB _ k_196) (fun _ h9 => h9) rfl d_Tree_look_61 ?_
    refine lv_iconst (v := nI 0) hx hb d_Tree_look_64 (by decide +kernel) ?_
    refine gz_roV (As := [.int (nI 0)]) (rest := []) (wc := (wI g k L u)) ⟨hx, hb, hml, hown, hTB⟩ (c_Inodes_ofKind l D g k L hL0 hL u 0 (by decide)) (cwV 1 hTB (gd_V k_601 k_602 k_603 k_54 k_604) rfl rfl rfl (by decide +kernel) ⟨Nat.le_of_ble_eq_true rfl, Nat.le_of_ble_eq_true rfl⟩) hK hP [4, 5, 6, 7, 8, 9, 10] rfl 4 rfl rfl rfl hl.1 rfl (Nat.le_of_ble_eq_true rfl) d_Tree_look_65 ⟨Nat.zero_le _, Nat.zero_le _⟩ hS (fun H locs hP hS => ?_)
    exact W.iret (v := nI (iok L (dNow u) 0)) hx hb hr (fun tt9 ht9 hW9 => ⟨⟨_, (), rfl, (by subst h1; rfl), trivial⟩, hS.F ht9⟩) hS.2.2 d_Tree_look_68
  · refine lv_tableIn (off := 68) (tgt := 69) hx hb d_Tree_look_1 (by rw [h1]; decide) (by rw [h1]; decide) (by rw [h1]; decide +kernel) (by decide) ?_
    refine lv_aload_n hx hb d_Tree_look_69 rfl (lv_at hl 0 rfl) ?_
    refine va_get (D := D) (ci := 3) (v := .ref (g 0)) (C := R_Tree) (T := T_Tree) (N := 5) hx hb hTB in_Tree hown hK hP 0 rfl rfl 0 (by decide) (hTB _ k_195) (fun _ h9 => h9) rfl d_Tree_look_70 ?_
    refine gz_roV (As := []) (rest := []) (wc := (wD g k L u)) ⟨hx, hb, hml, hown, hTB⟩ (c_Disk_differingBlocks l D g k L hL0 hL u) (cwV 0 hTB (gd_V k_215 k_165 k_166 k_52 k_167) rfl rfl rfl (by decide +kernel) ⟨Nat.le_of_ble_eq_true rfl, Nat.le_of_ble_eq_true rfl⟩) hK hP [5, 6, 7, 8, 9, 10] rfl 5 rfl rfl rfl hl.1 rfl (Nat.le_of_ble_eq_true rfl) d_Tree_look_73 ⟨Nat.zero_le _, Nat.zero_le _⟩ hS (fun H locs hP hS => ?_)
    have := dcG_le (dDif u) L 0
    have : dct L (dDif u) ≤ L := this
    exact W.iret (v := nI (dct L (dDif u))) hx hb hr (fun tt9 ht9 hW9 => ⟨⟨_, (), rfl, (by subst h1; rfl), trivial⟩, hS.F ht9⟩) hS.2.2 d_Tree_look_76
  · refine lv_tableIn (off := 76) (tgt := 77) hx hb d_Tree_look_1 (by rw [h1]; decide) (by rw [h1]; decide) (by rw [h1]; decide +kernel) (by decide) ?_
    refine lv_aload_n hx hb d_Tree_look_77 rfl (lv_at hl 0 rfl) ?_
    refine va_get (D := D) (ci := 3) (v := .ref (g 0)) (C := R_Tree) (T := T_Tree) (N := 5) hx hb hTB in_Tree hown hK hP 0 rfl rfl 0 (by decide) (hTB _ k_195) (fun _ h9 => h9) rfl d_Tree_look_78 ?_
    refine gz_roV (As := []) (rest := []) (wc := (wD g k L u)) ⟨hx, hb, hml, hown, hTB⟩ (c_Disk_earlyCommits l D g k L hL0 hL u) (cwV 0 hTB (gd_V k_605 k_606 k_607 k_52 k_608) rfl rfl rfl (by decide +kernel) ⟨Nat.le_of_ble_eq_true rfl, Nat.le_of_ble_eq_true rfl⟩) hK hP [5, 6, 7, 8, 9, 10] rfl 5 rfl rfl rfl hl.1 rfl (Nat.le_of_ble_eq_true rfl) d_Tree_look_81 ⟨Nat.zero_le _, Nat.zero_le _⟩ hS (fun H locs hP hS => ?_)
    exact W.iret (v := dEa u) hx hb hr (fun tt9 ht9 hW9 => ⟨⟨_, (), rfl, (by subst h1; rfl), trivial⟩, hS.F ht9⟩) hS.2.2 d_Tree_look_84
  · refine lv_tableIn (off := 84) (tgt := 85) hx hb d_Tree_look_1 (by rw [h1]; decide) (by rw [h1]; decide) (by rw [h1]; decide +kernel) (by decide) ?_
    refine lv_aload_n hx hb d_Tree_look_85 rfl (lv_at hl 0 rfl) ?_
    refine va_get (D := D) (ci := 3) (v := .int (nI tl)) (C := R_Tree) (T := T_Tree) (N := 5) hx hb hTB in_Tree hown hK hP 0 rfl rfl 4 (by decide) (hTB _ k_199) (fun _ h9 => h9) rfl d_Tree_look_86 ?_
    exact W.iret (v := nI tl) hx hb hr (fun tt9 ht9 hW9 => ⟨⟨_, (), rfl, (by subst h1; rfl), trivial⟩, hS.F ht9⟩) hS.2.2 d_Tree_look_89
  · refine lv_tableIn (off := 89) (tgt := 90) hx hb d_Tree_look_1 (by rw [h1]; decide) (by rw [h1]; decide) (by rw [h1]; decide +kernel) (by decide) ?_
    refine lv_aload_n hx hb d_Tree_look_90 rfl (lv_at hl 0 rfl) ?_
    refine va_get (D := D) (ci := 3) (v := .ref (g 6)) (C := R_Tree) (T := T_Tree) (N := 5) hx hb hTB in_Tree hown hK hP 0 rfl rfl 1 (by decide) (hTB _ k_196) (fun _ h9 => h9) rfl d_Tree_look_91 ?_
    refine lv_iconst (v := nI 2) hx hb d_Tree_look_94 (by decide +kernel) ?_
    refine gz_roV (As := [.int (nI 2)]) (rest := []) (wc := (wI g k L u)) ⟨hx, hb, hml, hown, hTB⟩ (c_Inodes_ofKind l D g k L hL0 hL u 2 (by decide)) (cwV 1 hTB (gd_V k_601 k_602 k_603 k_54 k_604) rfl rfl rfl (by decide +kernel) ⟨Nat.le_of_ble_eq_true rfl, Nat.le_of_ble_eq_true rfl⟩) hK hP [4, 5, 6, 7, 8, 9, 10] rfl 4 rfl rfl rfl hl.1 rfl (Nat.le_of_ble_eq_true rfl) d_Tree_look_95 ⟨Nat.zero_le _, Nat.zero_le _⟩ hS (fun H locs hP hS => ?_)
    exact W.iret (v := nI (iok L (dNow u) 2)) hx hb hr (fun tt9 ht9 hW9 => ⟨⟨_, (), rfl, (by subst h1; rfl), trivial⟩, hS.F ht9⟩) hS.2.2 d_Tree_look_98
  · exact absurd h1 (by omega)
end
