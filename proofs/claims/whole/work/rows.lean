section
-- ===== PART A: goes FIRST, ahead of the names: the tables' words, and 'selects' of the private methods out of them =====
/-- a private method of a class that the tables say can be made, by its rows of tables_1 -/
def lw_okq (q : MethodName × Nat) : Prop := (q.1.cls ≠ "java/lang/invoke/MethodHandle" ∧ q.1.cls ≠ "java/lang/invoke/VarHandle") ∧ Cond.instantiable q.1.cls q.2 ∈ tables_1 ∧ Cond.privateMethod q.1 ∈ tables_1 ∧ Cond.instanceMethod q.1 ∈ tables_1
theorem lw_p0 : lw_okq (⟨"NoticeBoxes$Tellings", "gather", "(LNoticeBoxes$State;II)V"⟩, 3) := ⟨⟨by decide +kernel, by decide +kernel⟩, List.mem_of_getElem? (i := 120) (by decide +kernel), List.mem_of_getElem? (i := 282) (by decide +kernel), List.mem_of_getElem? (i := 283) (by decide +kernel)⟩
theorem lw_p1 : lw_okq (⟨"NoticeBoxes$BoxList", "removeCoveredBy", "(I)V"⟩, 2) := ⟨⟨by decide +kernel, by decide +kernel⟩, List.mem_of_getElem? (i := 127) (by decide +kernel), List.mem_of_getElem? (i := 319) (by decide +kernel), List.mem_of_getElem? (i := 320) (by decide +kernel)⟩
theorem lw_p2 : lw_okq (⟨"NoticeBoxes$BoxList", "insert", "(I)V"⟩, 2) := ⟨⟨by decide +kernel, by decide +kernel⟩, List.mem_of_getElem? (i := 127) (by decide +kernel), List.mem_of_getElem? (i := 323) (by decide +kernel), List.mem_of_getElem? (i := 324) (by decide +kernel)⟩
theorem lw_p3 : lw_okq (⟨"NoticeBoxes$Journey", "goOn", "(LNoticeBoxes$State;LNoticeBoxes$Tellings;II)Z"⟩, 5) := ⟨⟨by decide +kernel, by decide +kernel⟩, List.mem_of_getElem? (i := 154) (by decide +kernel), List.mem_of_getElem? (i := 455) (by decide +kernel), List.mem_of_getElem? (i := 456) (by decide +kernel)⟩
theorem lw_p4 : lw_okq (⟨"NoticeBoxes", "deliver", "(II)I"⟩, 7) := ⟨⟨by decide +kernel, by decide +kernel⟩, List.mem_of_getElem? (i := 17) (by decide +kernel), List.mem_of_getElem? (i := 534) (by decide +kernel), List.mem_of_getElem? (i := 535) (by decide +kernel)⟩
theorem lw_p5 : lw_okq (⟨"NoticeBoxes$Client", "enter", "(I)V"⟩, 7) := ⟨⟨by decide +kernel, by decide +kernel⟩, List.mem_of_getElem? (i := 32) (by decide +kernel), List.mem_of_getElem? (i := 546) (by decide +kernel), List.mem_of_getElem? (i := 547) (by decide +kernel)⟩
theorem lw_p6 : lw_okq (⟨"NoticeBoxes$Client", "store", "(I)V"⟩, 7) := ⟨⟨by decide +kernel, by decide +kernel⟩, List.mem_of_getElem? (i := 32) (by decide +kernel), List.mem_of_getElem? (i := 550) (by decide +kernel), List.mem_of_getElem? (i := 551) (by decide +kernel)⟩
theorem lw_p7 : lw_okq (⟨"NoticeBoxes$Client", "loseFirst", "()V"⟩, 7) := ⟨⟨by decide +kernel, by decide +kernel⟩, List.mem_of_getElem? (i := 32) (by decide +kernel), List.mem_of_getElem? (i := 554) (by decide +kernel), List.mem_of_getElem? (i := 555) (by decide +kernel)⟩
theorem lw_p8 : lw_okq (⟨"NoticeBoxesModel", "allTold", "()I"⟩, 19) := ⟨⟨by decide +kernel, by decide +kernel⟩, List.mem_of_getElem? (i := 643) (by decide +kernel), List.mem_of_getElem? (i := 712) (by decide +kernel), List.mem_of_getElem? (i := 713) (by decide +kernel)⟩
theorem lw_p9 : lw_okq (⟨"NoticeBoxesModel", "lays", "()V"⟩, 19) := ⟨⟨by decide +kernel, by decide +kernel⟩, List.mem_of_getElem? (i := 643) (by decide +kernel), List.mem_of_getElem? (i := 716) (by decide +kernel), List.mem_of_getElem? (i := 717) (by decide +kernel)⟩
theorem lw_p10 : lw_okq (⟨"NoticeBoxesModel", "laysLink", "(II)V"⟩, 19) := ⟨⟨by decide +kernel, by decide +kernel⟩, List.mem_of_getElem? (i := 643) (by decide +kernel), List.mem_of_getElem? (i := 720) (by decide +kernel), List.mem_of_getElem? (i := 721) (by decide +kernel)⟩
theorem lw_p11 : lw_okq (⟨"NoticeBoxesModel", "gathersWishes", "(I)V"⟩, 19) := ⟨⟨by decide +kernel, by decide +kernel⟩, List.mem_of_getElem? (i := 643) (by decide +kernel), List.mem_of_getElem? (i := 724) (by decide +kernel), List.mem_of_getElem? (i := 725) (by decide +kernel)⟩
theorem lw_p12 : lw_okq (⟨"NoticeBoxesModel", "wish", "(II)I"⟩, 19) := ⟨⟨by decide +kernel, by decide +kernel⟩, List.mem_of_getElem? (i := 643) (by decide +kernel), List.mem_of_getElem? (i := 728) (by decide +kernel), List.mem_of_getElem? (i := 729) (by decide +kernel)⟩
theorem lw_p13 : lw_okq (⟨"NoticeBoxesModel", "of", "(II)I"⟩, 19) := ⟨⟨by decide +kernel, by decide +kernel⟩, List.mem_of_getElem? (i := 643) (by decide +kernel), List.mem_of_getElem? (i := 732) (by decide +kernel), List.mem_of_getElem? (i := 733) (by decide +kernel)⟩
theorem lw_p14 : lw_okq (⟨"NoticeBoxesModel", "comes", "()V"⟩, 19) := ⟨⟨by decide +kernel, by decide +kernel⟩, List.mem_of_getElem? (i := 643) (by decide +kernel), List.mem_of_getElem? (i := 736) (by decide +kernel), List.mem_of_getElem? (i := 737) (by decide +kernel)⟩
theorem lw_p15 : lw_okq (⟨"NoticeBoxesModel", "covers", "(II)Z"⟩, 19) := ⟨⟨by decide +kernel, by decide +kernel⟩, List.mem_of_getElem? (i := 643) (by decide +kernel), List.mem_of_getElem? (i := 740) (by decide +kernel), List.mem_of_getElem? (i := 741) (by decide +kernel)⟩
def lw_privs_1 : List (MethodName × Nat) := [(⟨"NoticeBoxes$Tellings", "gather", "(LNoticeBoxes$State;II)V"⟩, 3), (⟨"NoticeBoxes$BoxList", "removeCoveredBy", "(I)V"⟩, 2), (⟨"NoticeBoxes$BoxList", "insert", "(I)V"⟩, 2), (⟨"NoticeBoxes$Journey", "goOn", "(LNoticeBoxes$State;LNoticeBoxes$Tellings;II)Z"⟩, 5), (⟨"NoticeBoxes", "deliver", "(II)I"⟩, 7), (⟨"NoticeBoxes$Client", "enter", "(I)V"⟩, 7), (⟨"NoticeBoxes$Client", "store", "(I)V"⟩, 7), (⟨"NoticeBoxes$Client", "loseFirst", "()V"⟩, 7), (⟨"NoticeBoxesModel", "allTold", "()I"⟩, 19), (⟨"NoticeBoxesModel", "lays", "()V"⟩, 19), (⟨"NoticeBoxesModel", "laysLink", "(II)V"⟩, 19), (⟨"NoticeBoxesModel", "gathersWishes", "(I)V"⟩, 19), (⟨"NoticeBoxesModel", "wish", "(II)I"⟩, 19), (⟨"NoticeBoxesModel", "of", "(II)I"⟩, 19), (⟨"NoticeBoxesModel", "comes", "()V"⟩, 19), (⟨"NoticeBoxesModel", "covers", "(II)Z"⟩, 19)]
theorem lw_r1 : ∀ q ∈ lw_privs_1, lw_okq q := List.forall_mem_cons.mpr ⟨lw_p0, List.forall_mem_cons.mpr ⟨lw_p1, List.forall_mem_cons.mpr ⟨lw_p2, List.forall_mem_cons.mpr ⟨lw_p3, List.forall_mem_cons.mpr ⟨lw_p4, List.forall_mem_cons.mpr ⟨lw_p5, List.forall_mem_cons.mpr ⟨lw_p6, List.forall_mem_cons.mpr ⟨lw_p7, List.forall_mem_cons.mpr ⟨lw_p8, List.forall_mem_cons.mpr ⟨lw_p9, List.forall_mem_cons.mpr ⟨lw_p10, List.forall_mem_cons.mpr ⟨lw_p11, List.forall_mem_cons.mpr ⟨lw_p12, List.forall_mem_cons.mpr ⟨lw_p13, List.forall_mem_cons.mpr ⟨lw_p14, List.forall_mem_cons.mpr ⟨lw_p15, fun _ h => absurd h List.not_mem_nil⟩⟩⟩⟩⟩⟩⟩⟩⟩⟩⟩⟩⟩⟩⟩⟩
theorem lw_p16 : lw_okq (⟨"NoticeBoxesModel", "at", "(II)I"⟩, 19) := ⟨⟨by decide +kernel, by decide +kernel⟩, List.mem_of_getElem? (i := 643) (by decide +kernel), List.mem_of_getElem? (i := 744) (by decide +kernel), List.mem_of_getElem? (i := 745) (by decide +kernel)⟩
theorem lw_p17 : lw_okq (⟨"NoticeBoxesModel", "copies", "(II)V"⟩, 19) := ⟨⟨by decide +kernel, by decide +kernel⟩, List.mem_of_getElem? (i := 643) (by decide +kernel), List.mem_of_getElem? (i := 748) (by decide +kernel), List.mem_of_getElem? (i := 749) (by decide +kernel)⟩
theorem lw_p18 : lw_okq (⟨"NoticeBoxesModel", "settles", "()V"⟩, 19) := ⟨⟨by decide +kernel, by decide +kernel⟩, List.mem_of_getElem? (i := 643) (by decide +kernel), List.mem_of_getElem? (i := 752) (by decide +kernel), List.mem_of_getElem? (i := 753) (by decide +kernel)⟩
theorem lw_p19 : lw_okq (⟨"NoticeBoxesModel", "order", "(II)I"⟩, 19) := ⟨⟨by decide +kernel, by decide +kernel⟩, List.mem_of_getElem? (i := 643) (by decide +kernel), List.mem_of_getElem? (i := 756) (by decide +kernel), List.mem_of_getElem? (i := 757) (by decide +kernel)⟩
theorem lw_p20 : lw_okq (⟨"NoticeBoxesModel", "areNeighbours", "(II)Z"⟩, 19) := ⟨⟨by decide +kernel, by decide +kernel⟩, List.mem_of_getElem? (i := 643) (by decide +kernel), List.mem_of_getElem? (i := 760) (by decide +kernel), List.mem_of_getElem? (i := 761) (by decide +kernel)⟩
theorem lw_p21 : lw_okq (⟨"NoticeBoxesModel", "isBroker", "(I)Z"⟩, 19) := ⟨⟨by decide +kernel, by decide +kernel⟩, List.mem_of_getElem? (i := 643) (by decide +kernel), List.mem_of_getElem? (i := 764) (by decide +kernel), List.mem_of_getElem? (i := 765) (by decide +kernel)⟩
theorem lw_p22 : lw_okq (⟨"NoticeBoxesModel", "linkOf", "(II)I"⟩, 19) := ⟨⟨by decide +kernel, by decide +kernel⟩, List.mem_of_getElem? (i := 643) (by decide +kernel), List.mem_of_getElem? (i := 771) (by decide +kernel), List.mem_of_getElem? (i := 772) (by decide +kernel)⟩
theorem lw_p23 : lw_okq (⟨"NoticeBoxesModel", "gathersLink", "(I)V"⟩, 19) := ⟨⟨by decide +kernel, by decide +kernel⟩, List.mem_of_getElem? (i := 643) (by decide +kernel), List.mem_of_getElem? (i := 775) (by decide +kernel), List.mem_of_getElem? (i := 776) (by decide +kernel)⟩
theorem lw_p24 : lw_okq (⟨"NoticeBoxesModel", "joins", "()V"⟩, 19) := ⟨⟨by decide +kernel, by decide +kernel⟩, List.mem_of_getElem? (i := 643) (by decide +kernel), List.mem_of_getElem? (i := 779) (by decide +kernel), List.mem_of_getElem? (i := 780) (by decide +kernel)⟩
theorem lw_p25 : lw_okq (⟨"NoticeBoxesModel", "wasteOf", "(II)I"⟩, 19) := ⟨⟨by decide +kernel, by decide +kernel⟩, List.mem_of_getElem? (i := 643) (by decide +kernel), List.mem_of_getElem? (i := 783) (by decide +kernel), List.mem_of_getElem? (i := 784) (by decide +kernel)⟩
theorem lw_p26 : lw_okq (⟨"NoticeBoxesModel", "sizeOf", "(I)I"⟩, 19) := ⟨⟨by decide +kernel, by decide +kernel⟩, List.mem_of_getElem? (i := 643) (by decide +kernel), List.mem_of_getElem? (i := 790) (by decide +kernel), List.mem_of_getElem? (i := 791) (by decide +kernel)⟩
theorem lw_p27 : lw_okq (⟨"NoticeBoxesModel", "shared", "(II)I"⟩, 19) := ⟨⟨by decide +kernel, by decide +kernel⟩, List.mem_of_getElem? (i := 643) (by decide +kernel), List.mem_of_getElem? (i := 794) (by decide +kernel), List.mem_of_getElem? (i := 795) (by decide +kernel)⟩
theorem lw_p28 : lw_okq (⟨"NoticeBoxesModel", "wrong", "()I"⟩, 19) := ⟨⟨by decide +kernel, by decide +kernel⟩, List.mem_of_getElem? (i := 643) (by decide +kernel), List.mem_of_getElem? (i := 798) (by decide +kernel), List.mem_of_getElem? (i := 799) (by decide +kernel)⟩
theorem lw_p29 : lw_okq (⟨"NoticeBoxesModel", "isClient", "(I)Z"⟩, 19) := ⟨⟨by decide +kernel, by decide +kernel⟩, List.mem_of_getElem? (i := 643) (by decide +kernel), List.mem_of_getElem? (i := 802) (by decide +kernel), List.mem_of_getElem? (i := 803) (by decide +kernel)⟩
theorem lw_p30 : lw_okq (⟨"NoticeBoxesModel", "isWish", "(I)Z"⟩, 19) := ⟨⟨by decide +kernel, by decide +kernel⟩, List.mem_of_getElem? (i := 643) (by decide +kernel), List.mem_of_getElem? (i := 824) (by decide +kernel), List.mem_of_getElem? (i := 825) (by decide +kernel)⟩
theorem lw_p31 : lw_okq (⟨"NoticeBoxesModel", "takesWish", "(II)V"⟩, 19) := ⟨⟨by decide +kernel, by decide +kernel⟩, List.mem_of_getElem? (i := 643) (by decide +kernel), List.mem_of_getElem? (i := 828) (by decide +kernel), List.mem_of_getElem? (i := 829) (by decide +kernel)⟩
def lw_privs_2 : List (MethodName × Nat) := [(⟨"NoticeBoxesModel", "at", "(II)I"⟩, 19), (⟨"NoticeBoxesModel", "copies", "(II)V"⟩, 19), (⟨"NoticeBoxesModel", "settles", "()V"⟩, 19), (⟨"NoticeBoxesModel", "order", "(II)I"⟩, 19), (⟨"NoticeBoxesModel", "areNeighbours", "(II)Z"⟩, 19), (⟨"NoticeBoxesModel", "isBroker", "(I)Z"⟩, 19), (⟨"NoticeBoxesModel", "linkOf", "(II)I"⟩, 19), (⟨"NoticeBoxesModel", "gathersLink", "(I)V"⟩, 19), (⟨"NoticeBoxesModel", "joins", "()V"⟩, 19), (⟨"NoticeBoxesModel", "wasteOf", "(II)I"⟩, 19), (⟨"NoticeBoxesModel", "sizeOf", "(I)I"⟩, 19), (⟨"NoticeBoxesModel", "shared", "(II)I"⟩, 19), (⟨"NoticeBoxesModel", "wrong", "()I"⟩, 19), (⟨"NoticeBoxesModel", "isClient", "(I)Z"⟩, 19), (⟨"NoticeBoxesModel", "isWish", "(I)Z"⟩, 19), (⟨"NoticeBoxesModel", "takesWish", "(II)V"⟩, 19)]
theorem lw_r2 : ∀ q ∈ lw_privs_2, lw_okq q := List.forall_mem_cons.mpr ⟨lw_p16, List.forall_mem_cons.mpr ⟨lw_p17, List.forall_mem_cons.mpr ⟨lw_p18, List.forall_mem_cons.mpr ⟨lw_p19, List.forall_mem_cons.mpr ⟨lw_p20, List.forall_mem_cons.mpr ⟨lw_p21, List.forall_mem_cons.mpr ⟨lw_p22, List.forall_mem_cons.mpr ⟨lw_p23, List.forall_mem_cons.mpr ⟨lw_p24, List.forall_mem_cons.mpr ⟨lw_p25, List.forall_mem_cons.mpr ⟨lw_p26, List.forall_mem_cons.mpr ⟨lw_p27, List.forall_mem_cons.mpr ⟨lw_p28, List.forall_mem_cons.mpr ⟨lw_p29, List.forall_mem_cons.mpr ⟨lw_p30, List.forall_mem_cons.mpr ⟨lw_p31, fun _ h => absurd h List.not_mem_nil⟩⟩⟩⟩⟩⟩⟩⟩⟩⟩⟩⟩⟩⟩⟩⟩
theorem lw_p32 : lw_okq (⟨"NoticeBoxesModel", "covered", "(I)I"⟩, 19) := ⟨⟨by decide +kernel, by decide +kernel⟩, List.mem_of_getElem? (i := 643) (by decide +kernel), List.mem_of_getElem? (i := 832) (by decide +kernel), List.mem_of_getElem? (i := 833) (by decide +kernel)⟩
theorem lw_p33 : lw_okq (⟨"NoticeBoxesModel", "isWishBox", "()Z"⟩, 19) := ⟨⟨by decide +kernel, by decide +kernel⟩, List.mem_of_getElem? (i := 643) (by decide +kernel), List.mem_of_getElem? (i := 844) (by decide +kernel), List.mem_of_getElem? (i := 845) (by decide +kernel)⟩
theorem lw_p34 : lw_okq (⟨"NoticeBoxesModel", "walks", "(IIII)V"⟩, 19) := ⟨⟨by decide +kernel, by decide +kernel⟩, List.mem_of_getElem? (i := 643) (by decide +kernel), List.mem_of_getElem? (i := 855) (by decide +kernel), List.mem_of_getElem? (i := 856) (by decide +kernel)⟩
theorem lw_p35 : lw_okq (⟨"NoticeBoxesModel", "goes", "(IIIII)Z"⟩, 19) := ⟨⟨by decide +kernel, by decide +kernel⟩, List.mem_of_getElem? (i := 643) (by decide +kernel), List.mem_of_getElem? (i := 859) (by decide +kernel), List.mem_of_getElem? (i := 860) (by decide +kernel)⟩
theorem lw_p36 : lw_okq (⟨"NoticeBoxesModel", "isWished", "(IIII)Z"⟩, 19) := ⟨⟨by decide +kernel, by decide +kernel⟩, List.mem_of_getElem? (i := 643) (by decide +kernel), List.mem_of_getElem? (i := 866) (by decide +kernel), List.mem_of_getElem? (i := 867) (by decide +kernel)⟩
theorem lw_p37 : lw_okq (⟨"NoticeBoxesModel", "deed", "()V"⟩, 19) := ⟨⟨by decide +kernel, by decide +kernel⟩, List.mem_of_getElem? (i := 643) (by decide +kernel), List.mem_of_getElem? (i := 875) (by decide +kernel), List.mem_of_getElem? (i := 876) (by decide +kernel)⟩
theorem lw_p38 : lw_okq (⟨"NoticeBoxesModel", "sets", "(III)V"⟩, 19) := ⟨⟨by decide +kernel, by decide +kernel⟩, List.mem_of_getElem? (i := 643) (by decide +kernel), List.mem_of_getElem? (i := 883) (by decide +kernel), List.mem_of_getElem? (i := 884) (by decide +kernel)⟩
theorem lw_p39 : lw_okq (⟨"NoticeBoxesModel", "bounds", "(IIII)V"⟩, 19) := ⟨⟨by decide +kernel, by decide +kernel⟩, List.mem_of_getElem? (i := 643) (by decide +kernel), List.mem_of_getElem? (i := 894) (by decide +kernel), List.mem_of_getElem? (i := 895) (by decide +kernel)⟩
theorem lw_p40 : lw_okq (⟨"NoticeBoxesModel", "dropsWish", "(I)V"⟩, 19) := ⟨⟨by decide +kernel, by decide +kernel⟩, List.mem_of_getElem? (i := 643) (by decide +kernel), List.mem_of_getElem? (i := 902) (by decide +kernel), List.mem_of_getElem? (i := 903) (by decide +kernel)⟩
theorem lw_p41 : lw_okq (⟨"NoticeBoxesModel", "puts", "(IIII)I"⟩, 19) := ⟨⟨by decide +kernel, by decide +kernel⟩, List.mem_of_getElem? (i := 643) (by decide +kernel), List.mem_of_getElem? (i := 914) (by decide +kernel), List.mem_of_getElem? (i := 915) (by decide +kernel)⟩
theorem lw_p42 : lw_okq (⟨"NoticeBoxesModel", "logs", "(II)V"⟩, 19) := ⟨⟨by decide +kernel, by decide +kernel⟩, List.mem_of_getElem? (i := 643) (by decide +kernel), List.mem_of_getElem? (i := 918) (by decide +kernel), List.mem_of_getElem? (i := 919) (by decide +kernel)⟩
theorem lw_p43 : lw_okq (⟨"NoticeBoxesModel", "waits", "(II)V"⟩, 19) := ⟨⟨by decide +kernel, by decide +kernel⟩, List.mem_of_getElem? (i := 643) (by decide +kernel), List.mem_of_getElem? (i := 922) (by decide +kernel), List.mem_of_getElem? (i := 923) (by decide +kernel)⟩
theorem lw_p44 : lw_okq (⟨"NoticeBoxesModel", "draws", "(I)I"⟩, 19) := ⟨⟨by decide +kernel, by decide +kernel⟩, List.mem_of_getElem? (i := 643) (by decide +kernel), List.mem_of_getElem? (i := 946) (by decide +kernel), List.mem_of_getElem? (i := 947) (by decide +kernel)⟩
def lw_privs_3 : List (MethodName × Nat) := [(⟨"NoticeBoxesModel", "covered", "(I)I"⟩, 19), (⟨"NoticeBoxesModel", "isWishBox", "()Z"⟩, 19), (⟨"NoticeBoxesModel", "walks", "(IIII)V"⟩, 19), (⟨"NoticeBoxesModel", "goes", "(IIIII)Z"⟩, 19), (⟨"NoticeBoxesModel", "isWished", "(IIII)Z"⟩, 19), (⟨"NoticeBoxesModel", "deed", "()V"⟩, 19), (⟨"NoticeBoxesModel", "sets", "(III)V"⟩, 19), (⟨"NoticeBoxesModel", "bounds", "(IIII)V"⟩, 19), (⟨"NoticeBoxesModel", "dropsWish", "(I)V"⟩, 19), (⟨"NoticeBoxesModel", "puts", "(IIII)I"⟩, 19), (⟨"NoticeBoxesModel", "logs", "(II)V"⟩, 19), (⟨"NoticeBoxesModel", "waits", "(II)V"⟩, 19), (⟨"NoticeBoxesModel", "draws", "(I)I"⟩, 19)]
theorem lw_r3 : ∀ q ∈ lw_privs_3, lw_okq q := List.forall_mem_cons.mpr ⟨lw_p32, List.forall_mem_cons.mpr ⟨lw_p33, List.forall_mem_cons.mpr ⟨lw_p34, List.forall_mem_cons.mpr ⟨lw_p35, List.forall_mem_cons.mpr ⟨lw_p36, List.forall_mem_cons.mpr ⟨lw_p37, List.forall_mem_cons.mpr ⟨lw_p38, List.forall_mem_cons.mpr ⟨lw_p39, List.forall_mem_cons.mpr ⟨lw_p40, List.forall_mem_cons.mpr ⟨lw_p41, List.forall_mem_cons.mpr ⟨lw_p42, List.forall_mem_cons.mpr ⟨lw_p43, List.forall_mem_cons.mpr ⟨lw_p44, fun _ h => absurd h List.not_mem_nil⟩⟩⟩⟩⟩⟩⟩⟩⟩⟩⟩⟩⟩
def lw_privs : List (MethodName × Nat) := lw_privs_1 ++ (lw_privs_2 ++ (lw_privs_3))
def lw_tbl : List Cond := k2_sels lw_privs ++ tables_1
theorem lw_privs_ok : ∀ q ∈ lw_privs, lw_okq q := by
  show ∀ q ∈ lw_privs_1 ++ (lw_privs_2 ++ (lw_privs_3)), lw_okq q
  exact List.forall_mem_append.mpr ⟨lw_r1, List.forall_mem_append.mpr ⟨lw_r2, lw_r3⟩⟩
end
section
/-! ===== BEGIN printed: names, fields ===== -/
def RX0 : String := "NoticeBoxes$Book"
def TX0 : u_T := fun k => match k with
  | 0 => ("NoticeBoxes$Book", "clientNumbers", "[I", true)
  | 1 => ("NoticeBoxes$Book", "hads", "[I", true)
  | _ => ("NoticeBoxes$Book", "count", "I", false)
def tyX0 : Nat → FieldType := fun k => match k with
  | 0 => .array .int
  | 1 => .array .int
  | _ => .int
abbrev wsX00 : List Cond := u_ws RX0 TX0 3
theorem nmX0 : ∀ a, a < 3 → ∀ b, b < 3 → a ≠ b → (TX0 a).2.1 ≠ (TX0 b).2.1 := by decide +kernel
theorem tyX0_ok : ∀ k, k < 3 → parseFieldDescriptor (TX0 k).2.2.1 = some (tyX0 k) := by decide +kernel
abbrev cX0_init : ByteArray := prog_2_method_1_code
def yX0_init : MethodName := ⟨RX0, "<init>", "()V"⟩
abbrev cX0_add : ByteArray := prog_2_method_2_code
def yX0_add : MethodName := ⟨RX0, "add", "(II)V"⟩
abbrev cX0_firstWrong : ByteArray := prog_2_method_3_code
def yX0_firstWrong : MethodName := ⟨RX0, "firstWrong", "(LNoticeBoxes$State;)I"⟩
def RX1 : String := "NoticeBoxes$Box"
def TX1 : u_T := fun k => match k with
  | _ => ("", "", "", false)
def tyX1 : Nat → FieldType := fun k => match k with
  | _ => .int
abbrev wsX10 : List Cond := u_ws RX1 TX1 0
theorem nmX1 : ∀ a, a < 0 → ∀ b, b < 0 → a ≠ b → (TX1 a).2.1 ≠ (TX1 b).2.1 := by decide +kernel
theorem tyX1_ok : ∀ k, k < 0 → parseFieldDescriptor (TX1 k).2.2.1 = some (tyX1 k) := by decide +kernel
abbrev cX1_ofNotice : ByteArray := prog_3_method_2_code
def yX1_ofNotice : MethodName := ⟨RX1, "ofNotice", "(III)I"⟩
abbrev cX1_withBounds : ByteArray := prog_3_method_3_code
def yX1_withBounds : MethodName := ⟨RX1, "withBounds", "(III)I"⟩
abbrev cX1_withKind : ByteArray := prog_3_method_4_code
def yX1_withKind : MethodName := ⟨RX1, "withKind", "(III)I"⟩
abbrev cX1_bound : ByteArray := prog_3_method_5_code
def yX1_bound : MethodName := ⟨RX1, "bound", "(II)I"⟩
abbrev cX1_from : ByteArray := prog_3_method_6_code
def yX1_from : MethodName := ⟨RX1, "from", "(II)I"⟩
abbrev cX1_to : ByteArray := prog_3_method_7_code
def yX1_to : MethodName := ⟨RX1, "to", "(II)I"⟩
abbrev cX1_size : ByteArray := prog_3_method_8_code
def yX1_size : MethodName := ⟨RX1, "size", "(I)I"⟩
abbrev cX1_sizeOfCommon : ByteArray := prog_3_method_9_code
def yX1_sizeOfCommon : MethodName := ⟨RX1, "sizeOfCommon", "(II)I"⟩
abbrev cX1_covers : ByteArray := prog_3_method_10_code
def yX1_covers : MethodName := ⟨RX1, "covers", "(II)Z"⟩
abbrev cX1_joined : ByteArray := prog_3_method_11_code
def yX1_joined : MethodName := ⟨RX1, "joined", "(II)I"⟩
abbrev cX1_waste : ByteArray := prog_3_method_12_code
def yX1_waste : MethodName := ⟨RX1, "waste", "(II)I"⟩
def RX2 : String := "NoticeBoxes$BoxList"
def TX2 : u_T := fun k => match k with
  | 0 => ("NoticeBoxes$BoxList", "boxes", "[I", true)
  | _ => ("NoticeBoxes$BoxList", "count", "I", false)
def tyX2 : Nat → FieldType := fun k => match k with
  | 0 => .array .int
  | _ => .int
abbrev wsX20 : List Cond := u_ws RX2 TX2 2
theorem nmX2 : ∀ a, a < 2 → ∀ b, b < 2 → a ≠ b → (TX2 a).2.1 ≠ (TX2 b).2.1 := by decide +kernel
theorem tyX2_ok : ∀ k, k < 2 → parseFieldDescriptor (TX2 k).2.2.1 = some (tyX2 k) := by decide +kernel
abbrev cX2_init : ByteArray := prog_4_method_1_code
def yX2_init : MethodName := ⟨RX2, "<init>", "()V"⟩
abbrev cX2_covers : ByteArray := prog_4_method_2_code
def yX2_covers : MethodName := ⟨RX2, "covers", "(I)Z"⟩
abbrev cX2_add : ByteArray := prog_4_method_3_code
def yX2_add : MethodName := ⟨RX2, "add", "(I)V"⟩
abbrev cX2_cheapestJoin : ByteArray := prog_4_method_4_code
def yX2_cheapestJoin : MethodName := ⟨RX2, "cheapestJoin", "()I"⟩
abbrev cX2_removeCoveredBy : ByteArray := prog_4_method_5_code
def yX2_removeCoveredBy : MethodName := ⟨RX2, "removeCoveredBy", "(I)V"⟩
abbrev cX2_insert : ByteArray := prog_4_method_6_code
def yX2_insert : MethodName := ⟨RX2, "insert", "(I)V"⟩
def RX3 : String := "NoticeBoxes$Client"
def TX3 : u_T := fun k => match k with
  | 0 => ("NoticeBoxes$Client", "home", "I", false)
  | 1 => ("NoticeBoxes$Client", "present", "Z", false)
  | 2 => ("NoticeBoxes$Client", "had", "I", false)
  | 3 => ("NoticeBoxes$Client", "lost", "I", false)
  | 4 => ("NoticeBoxes$Client", "keptCount", "I", false)
  | 5 => ("NoticeBoxes$Client", "kept", "[I", true)
  | _ => ("NoticeBoxes$Client", "latestFirst", "[I", true)
def tyX3 : Nat → FieldType := fun k => match k with
  | 0 => .int
  | 1 => .boolean
  | 2 => .int
  | 3 => .int
  | 4 => .int
  | 5 => .array .int
  | _ => .array .int
abbrev wsX30 : List Cond := u_ws RX3 TX3 7
theorem nmX3 : ∀ a, a < 7 → ∀ b, b < 7 → a ≠ b → (TX3 a).2.1 ≠ (TX3 b).2.1 := by decide +kernel
theorem tyX3_ok : ∀ k, k < 7 → parseFieldDescriptor (TX3 k).2.2.1 = some (tyX3 k) := by decide +kernel
abbrev cX3_init : ByteArray := prog_5_method_1_code
def yX3_init : MethodName := ⟨RX3, "<init>", "()V"⟩
abbrev cX3_begin : ByteArray := prog_5_method_2_code
def yX3_begin : MethodName := ⟨RX3, "begin", "(I)V"⟩
abbrev cX3_copyFrom : ByteArray := prog_5_method_3_code
def yX3_copyFrom : MethodName := ⟨RX3, "copyFrom", "(LNoticeBoxes$Client;)V"⟩
abbrev cX3_latest : ByteArray := prog_5_method_4_code
def yX3_latest : MethodName := ⟨RX3, "latest", "(I)I"⟩
abbrev cX3_receive : ByteArray := prog_5_method_5_code
def yX3_receive : MethodName := ⟨RX3, "receive", "(I)V"⟩
abbrev cX3_arrive : ByteArray := prog_5_method_6_code
def yX3_arrive : MethodName := ⟨RX3, "arrive", "(I)I"⟩
abbrev cX3_enter : ByteArray := prog_5_method_7_code
def yX3_enter : MethodName := ⟨RX3, "enter", "(I)V"⟩
abbrev cX3_store : ByteArray := prog_5_method_8_code
def yX3_store : MethodName := ⟨RX3, "store", "(I)V"⟩
abbrev cX3_loseFirst : ByteArray := prog_5_method_9_code
def yX3_loseFirst : MethodName := ⟨RX3, "loseFirst", "()V"⟩
def RX4 : String := "NoticeBoxes$Draws"
def TX4 : u_T := fun k => match k with
  | _ => ("NoticeBoxes$Draws", "value", "I", false)
def tyX4 : Nat → FieldType := fun k => match k with
  | _ => .int
abbrev wsX40 : List Cond := u_ws RX4 TX4 1
theorem nmX4 : ∀ a, a < 1 → ∀ b, b < 1 → a ≠ b → (TX4 a).2.1 ≠ (TX4 b).2.1 := by decide +kernel
theorem tyX4_ok : ∀ k, k < 1 → parseFieldDescriptor (TX4 k).2.2.1 = some (tyX4 k) := by decide +kernel
abbrev cX4_init : ByteArray := prog_6_method_1_code
def yX4_init : MethodName := ⟨RX4, "<init>", "()V"⟩
abbrev cX4_draw : ByteArray := prog_6_method_2_code
def yX4_draw : MethodName := ⟨RX4, "draw", "(I)I"⟩
def RX5 : String := "NoticeBoxes$Image"
def TX5 : u_T := fun k => match k with
  | 0 => ("NoticeBoxes$Image", "state", "LNoticeBoxes$State;", true)
  | 1 => ("NoticeBoxes$Image", "seedValue", "I", false)
  | _ => ("NoticeBoxes$Image", "taken", "Z", false)
def tyX5 : Nat → FieldType := fun k => match k with
  | 0 => .object "NoticeBoxes$State"
  | 1 => .int
  | _ => .boolean
abbrev wsX50 : List Cond := u_ws RX5 TX5 3
theorem nmX5 : ∀ a, a < 3 → ∀ b, b < 3 → a ≠ b → (TX5 a).2.1 ≠ (TX5 b).2.1 := by decide +kernel
theorem tyX5_ok : ∀ k, k < 3 → parseFieldDescriptor (TX5 k).2.2.1 = some (tyX5 k) := by decide +kernel
abbrev cX5_init : ByteArray := prog_7_method_1_code
def yX5_init : MethodName := ⟨RX5, "<init>", "()V"⟩
abbrev cX5_take : ByteArray := prog_7_method_2_code
def yX5_take : MethodName := ⟨RX5, "take", "(LNoticeBoxes$State;LNoticeBoxes$Draws;)V"⟩
abbrev cX5_giveBack : ByteArray := prog_7_method_3_code
def yX5_giveBack : MethodName := ⟨RX5, "giveBack", "(LNoticeBoxes$State;LNoticeBoxes$Draws;)V"⟩
def RX6 : String := "NoticeBoxes$Journey"
def TX6 : u_T := fun k => match k with
  | 0 => ("NoticeBoxes$Journey", "reached", "[I", true)
  | 1 => ("NoticeBoxes$Journey", "places", "I", false)
  | 2 => ("NoticeBoxes$Journey", "getters", "I", false)
  | 3 => ("NoticeBoxes$Journey", "vain", "I", false)
  | _ => ("NoticeBoxes$Journey", "links", "I", false)
def tyX6 : Nat → FieldType := fun k => match k with
  | 0 => .array .int
  | 1 => .int
  | 2 => .int
  | 3 => .int
  | _ => .int
abbrev wsX60 : List Cond := u_ws RX6 TX6 5
theorem nmX6 : ∀ a, a < 5 → ∀ b, b < 5 → a ≠ b → (TX6 a).2.1 ≠ (TX6 b).2.1 := by decide +kernel
theorem tyX6_ok : ∀ k, k < 5 → parseFieldDescriptor (TX6 k).2.2.1 = some (tyX6 k) := by decide +kernel
abbrev cX6_init : ByteArray := prog_8_method_1_code
def yX6_init : MethodName := ⟨RX6, "<init>", "()V"⟩
abbrev cX6_travel : ByteArray := prog_8_method_2_code
def yX6_travel : MethodName := ⟨RX6, "travel", "(LNoticeBoxes$State;LNoticeBoxes$Tellings;II)V"⟩
abbrev cX6_goOn : ByteArray := prog_8_method_3_code
def yX6_goOn : MethodName := ⟨RX6, "goOn", "(LNoticeBoxes$State;LNoticeBoxes$Tellings;II)Z"⟩
def RX7 : String := "NoticeBoxes$Past"
def TX7 : u_T := fun k => match k with
  | 0 => ("NoticeBoxes$Past", "ring", "[LNoticeBoxes$State;", true)
  | 1 => ("NoticeBoxes$Past", "first", "I", false)
  | _ => ("NoticeBoxes$Past", "count", "I", false)
def tyX7 : Nat → FieldType := fun k => match k with
  | 0 => .array (.object "NoticeBoxes$State")
  | 1 => .int
  | _ => .int
abbrev wsX70 : List Cond := u_ws RX7 TX7 3
theorem nmX7 : ∀ a, a < 3 → ∀ b, b < 3 → a ≠ b → (TX7 a).2.1 ≠ (TX7 b).2.1 := by decide +kernel
theorem tyX7_ok : ∀ k, k < 3 → parseFieldDescriptor (TX7 k).2.2.1 = some (tyX7 k) := by decide +kernel
abbrev cX7_init : ByteArray := prog_9_method_1_code
def yX7_init : MethodName := ⟨RX7, "<init>", "()V"⟩
abbrev cX7_remember : ByteArray := prog_9_method_2_code
def yX7_remember : MethodName := ⟨RX7, "remember", "(LNoticeBoxes$State;)V"⟩
abbrev cX7_restore : ByteArray := prog_9_method_3_code
def yX7_restore : MethodName := ⟨RX7, "restore", "(LNoticeBoxes$State;I)V"⟩
abbrev cX7_forget : ByteArray := prog_9_method_4_code
def yX7_forget : MethodName := ⟨RX7, "forget", "()V"⟩
def RX8 : String := "NoticeBoxes$State"
def TX8 : u_T := fun k => match k with
  | 0 => ("NoticeBoxes$State", "brokerCount", "I", false)
  | 1 => ("NoticeBoxes$State", "clientCount", "I", false)
  | 2 => ("NoticeBoxes$State", "wishCount", "I", false)
  | 3 => ("NoticeBoxes$State", "mostTold", "I", false)
  | 4 => ("NoticeBoxes$State", "nextNotice", "I", false)
  | 5 => ("NoticeBoxes$State", "linkSum", "I", false)
  | 6 => ("NoticeBoxes$State", "vainSum", "I", false)
  | 7 => ("NoticeBoxes$State", "above", "[I", true)
  | 8 => ("NoticeBoxes$State", "clients", "[LNoticeBoxes$Client;", true)
  | 9 => ("NoticeBoxes$State", "wishers", "[I", true)
  | _ => ("NoticeBoxes$State", "wishBoxes", "[I", true)
def tyX8 : Nat → FieldType := fun k => match k with
  | 0 => .int
  | 1 => .int
  | 2 => .int
  | 3 => .int
  | 4 => .int
  | 5 => .int
  | 6 => .int
  | 7 => .array .int
  | 8 => .array (.object "NoticeBoxes$Client")
  | 9 => .array .int
  | _ => .array .int
abbrev wsX80 : List Cond := u_ws RX8 TX8 11
theorem nmX8 : ∀ a, a < 11 → ∀ b, b < 11 → a ≠ b → (TX8 a).2.1 ≠ (TX8 b).2.1 := by decide +kernel
theorem tyX8_ok : ∀ k, k < 11 → parseFieldDescriptor (TX8 k).2.2.1 = some (tyX8 k) := by decide +kernel
abbrev cX8_init : ByteArray := prog_10_method_1_code
def yX8_init : MethodName := ⟨RX8, "<init>", "()V"⟩
abbrev cX8_copyFrom : ByteArray := prog_10_method_2_code
def yX8_copyFrom : MethodName := ⟨RX8, "copyFrom", "(LNoticeBoxes$State;)V"⟩
abbrev cX8_hasBroker : ByteArray := prog_10_method_3_code
def yX8_hasBroker : MethodName := ⟨RX8, "hasBroker", "(I)Z"⟩
abbrev cX8_hasClient : ByteArray := prog_10_method_4_code
def yX8_hasClient : MethodName := ⟨RX8, "hasClient", "(I)Z"⟩
abbrev cX8_hasWish : ByteArray := prog_10_method_5_code
def yX8_hasWish : MethodName := ⟨RX8, "hasWish", "(I)Z"⟩
abbrev cX8_areNeighbours : ByteArray := prog_10_method_6_code
def yX8_areNeighbours : MethodName := ⟨RX8, "areNeighbours", "(II)Z"⟩
abbrev cX8_neighboursOf : ByteArray := prog_10_method_7_code
def yX8_neighboursOf : MethodName := ⟨RX8, "neighboursOf", "(I)I"⟩
abbrev cX8_clientsHomeAt : ByteArray := prog_10_method_8_code
def yX8_clientsHomeAt : MethodName := ⟨RX8, "clientsHomeAt", "(I)I"⟩
abbrev cX8_wishesOf : ByteArray := prog_10_method_9_code
def yX8_wishesOf : MethodName := ⟨RX8, "wishesOf", "(I)I"⟩
abbrev cX8_wishesCoveredBy : ByteArray := prog_10_method_10_code
def yX8_wishesCoveredBy : MethodName := ⟨RX8, "wishesCoveredBy", "(I)I"⟩
abbrev cX8_clientsWishing : ByteArray := prog_10_method_11_code
def yX8_clientsWishing : MethodName := ⟨RX8, "clientsWishing", "(I)I"⟩
abbrev cX8_isWished : ByteArray := prog_10_method_12_code
def yX8_isWished : MethodName := ⟨RX8, "isWished", "(I)Z"⟩
abbrev cX8_addBroker : ByteArray := prog_10_method_13_code
def yX8_addBroker : MethodName := ⟨RX8, "addBroker", "(I)I"⟩
abbrev cX8_addClient : ByteArray := prog_10_method_14_code
def yX8_addClient : MethodName := ⟨RX8, "addClient", "(I)I"⟩
abbrev cX8_addWish : ByteArray := prog_10_method_15_code
def yX8_addWish : MethodName := ⟨RX8, "addWish", "(II)I"⟩
abbrev cX8_removeWish : ByteArray := prog_10_method_16_code
def yX8_removeWish : MethodName := ⟨RX8, "removeWish", "(I)V"⟩
abbrev cX8_removeLatestClient : ByteArray := prog_10_method_17_code
def yX8_removeLatestClient : MethodName := ⟨RX8, "removeLatestClient", "()V"⟩
abbrev cX8_hand : ByteArray := prog_10_method_18_code
def yX8_hand : MethodName := ⟨RX8, "hand", "(LNoticeBoxes$Journey;)V"⟩
def RX9 : String := "NoticeBoxes$Tellings"
def TX9 : u_T := fun k => match k with
  | 0 => ("NoticeBoxes$Tellings", "upward", "[LNoticeBoxes$BoxList;", true)
  | 1 => ("NoticeBoxes$Tellings", "downward", "[LNoticeBoxes$BoxList;", true)
  | _ => ("NoticeBoxes$Tellings", "fresh", "Z", false)
def tyX9 : Nat → FieldType := fun k => match k with
  | 0 => .array (.object "NoticeBoxes$BoxList")
  | 1 => .array (.object "NoticeBoxes$BoxList")
  | _ => .boolean
abbrev wsX90 : List Cond := u_ws RX9 TX9 3
theorem nmX9 : ∀ a, a < 3 → ∀ b, b < 3 → a ≠ b → (TX9 a).2.1 ≠ (TX9 b).2.1 := by decide +kernel
theorem tyX9_ok : ∀ k, k < 3 → parseFieldDescriptor (TX9 k).2.2.1 = some (tyX9 k) := by decide +kernel
abbrev cX9_init : ByteArray := prog_11_method_1_code
def yX9_init : MethodName := ⟨RX9, "<init>", "()V"⟩
abbrev cX9_outdate : ByteArray := prog_11_method_2_code
def yX9_outdate : MethodName := ⟨RX9, "outdate", "()V"⟩
abbrev cX9_between : ByteArray := prog_11_method_3_code
def yX9_between : MethodName := ⟨RX9, "between", "(LNoticeBoxes$State;II)LNoticeBoxes$BoxList;"⟩
abbrev cX9_countAll : ByteArray := prog_11_method_4_code
def yX9_countAll : MethodName := ⟨RX9, "countAll", "(LNoticeBoxes$State;)I"⟩
abbrev cX9_refresh : ByteArray := prog_11_method_5_code
def yX9_refresh : MethodName := ⟨RX9, "refresh", "(LNoticeBoxes$State;)V"⟩
abbrev cX9_gather : ByteArray := prog_11_method_6_code
def yX9_gather : MethodName := ⟨RX9, "gather", "(LNoticeBoxes$State;II)V"⟩
def RX10 : String := "NoticeBoxes"
def TX10 : u_T := fun k => match k with
  | 0 => ("NoticeBoxes", "now", "LNoticeBoxes$State;", true)
  | 1 => ("NoticeBoxes", "tellings", "LNoticeBoxes$Tellings;", true)
  | 2 => ("NoticeBoxes", "journey", "LNoticeBoxes$Journey;", true)
  | 3 => ("NoticeBoxes", "past", "LNoticeBoxes$Past;", true)
  | 4 => ("NoticeBoxes", "book", "LNoticeBoxes$Book;", true)
  | 5 => ("NoticeBoxes", "draws", "LNoticeBoxes$Draws;", true)
  | _ => ("NoticeBoxes", "images", "[LNoticeBoxes$Image;", true)
def tyX10 : Nat → FieldType := fun k => match k with
  | 0 => .object "NoticeBoxes$State"
  | 1 => .object "NoticeBoxes$Tellings"
  | 2 => .object "NoticeBoxes$Journey"
  | 3 => .object "NoticeBoxes$Past"
  | 4 => .object "NoticeBoxes$Book"
  | 5 => .object "NoticeBoxes$Draws"
  | _ => .array (.object "NoticeBoxes$Image")
abbrev wsX100 : List Cond := u_ws RX10 TX10 7
theorem nmX10 : ∀ a, a < 7 → ∀ b, b < 7 → a ≠ b → (TX10 a).2.1 ≠ (TX10 b).2.1 := by decide +kernel
theorem tyX10_ok : ∀ k, k < 7 → parseFieldDescriptor (TX10 k).2.2.1 = some (tyX10 k) := by decide +kernel
abbrev cX10_init : ByteArray := prog_1_method_1_code
def yX10_init : MethodName := ⟨RX10, "<init>", "()V"⟩
abbrev cX10_told : ByteArray := prog_1_method_2_code
def yX10_told : MethodName := ⟨RX10, "told", "(I)I"⟩
abbrev cX10_brokerAt : ByteArray := prog_1_method_3_code
def yX10_brokerAt : MethodName := ⟨RX10, "brokerAt", "(II)I"⟩
abbrev cX10_clientAt : ByteArray := prog_1_method_4_code
def yX10_clientAt : MethodName := ⟨RX10, "clientAt", "(II)I"⟩
abbrev cX10_log : ByteArray := prog_1_method_5_code
def yX10_log : MethodName := ⟨RX10, "log", "(II)I"⟩
abbrev cX10_wishAt : ByteArray := prog_1_method_6_code
def yX10_wishAt : MethodName := ⟨RX10, "wishAt", "(II)I"⟩
abbrev cX10_toldOn : ByteArray := prog_1_method_7_code
def yX10_toldOn : MethodName := ⟨RX10, "toldOn", "(II)I"⟩
abbrev cX10_box : ByteArray := prog_1_method_8_code
def yX10_box : MethodName := ⟨RX10, "box", "(IIII)I"⟩
abbrev cX10_would : ByteArray := prog_1_method_9_code
def yX10_would : MethodName := ⟨RX10, "would", "(IIIII)I"⟩
abbrev cX10_broker : ByteArray := prog_1_method_10_code
def yX10_broker : MethodName := ⟨RX10, "broker", "(I)I"⟩
abbrev cX10_client : ByteArray := prog_1_method_11_code
def yX10_client : MethodName := ⟨RX10, "client", "(I)I"⟩
abbrev cX10_wish : ByteArray := prog_1_method_12_code
def yX10_wish : MethodName := ⟨RX10, "wish", "(IIIIIII)I"⟩
abbrev cX10_drop : ByteArray := prog_1_method_13_code
def yX10_drop : MethodName := ⟨RX10, "drop", "(I)I"⟩
abbrev cX10_most : ByteArray := prog_1_method_14_code
def yX10_most : MethodName := ⟨RX10, "most", "(I)I"⟩
abbrev cX10_put : ByteArray := prog_1_method_15_code
def yX10_put : MethodName := ⟨RX10, "put", "(IIII)I"⟩
abbrev cX10_leave : ByteArray := prog_1_method_16_code
def yX10_leave : MethodName := ⟨RX10, "leave", "(I)I"⟩
abbrev cX10_come : ByteArray := prog_1_method_17_code
def yX10_come : MethodName := ⟨RX10, "come", "(II)I"⟩
abbrev cX10_part : ByteArray := prog_1_method_18_code
def yX10_part : MethodName := ⟨RX10, "part", "()I"⟩
abbrev cX10_drift : ByteArray := prog_1_method_19_code
def yX10_drift : MethodName := ⟨RX10, "drift", "(I)I"⟩
abbrev cX10_undo : ByteArray := prog_1_method_20_code
def yX10_undo : MethodName := ⟨RX10, "undo", "(I)I"⟩
abbrev cX10_write : ByteArray := prog_1_method_21_code
def yX10_write : MethodName := ⟨RX10, "write", "(II)I"⟩
abbrev cX10_tear : ByteArray := prog_1_method_22_code
def yX10_tear : MethodName := ⟨RX10, "tear", "()I"⟩
abbrev cX10_seed : ByteArray := prog_1_method_23_code
def yX10_seed : MethodName := ⟨RX10, "seed", "(I)I"⟩
abbrev cX10_keep : ByteArray := prog_1_method_24_code
def yX10_keep : MethodName := ⟨RX10, "keep", "(I)I"⟩
abbrev cX10_goBack : ByteArray := prog_1_method_25_code
def yX10_goBack : MethodName := ⟨RX10, "goBack", "(I)I"⟩
abbrev cX10_deliver : ByteArray := prog_1_method_26_code
def yX10_deliver : MethodName := ⟨RX10, "deliver", "(II)I"⟩
abbrev cX10_within : ByteArray := prog_1_method_27_code
def yX10_within : MethodName := ⟨RX10, "within", "(III)Z"⟩
abbrev cX10_holds : ByteArray := prog_1_method_28_code
def yX10_holds : MethodName := ⟨RX10, "holds", "(II)Z"⟩
abbrev cX10_isKind : ByteArray := prog_1_method_29_code
def yX10_isKind : MethodName := ⟨RX10, "isKind", "(I)Z"⟩
abbrev cX10_isNotice : ByteArray := prog_1_method_30_code
def yX10_isNotice : MethodName := ⟨RX10, "isNotice", "(III)Z"⟩
def RX11 : String := "NoticeBoxesModel"
def TX11 : u_T := fun k => match k with
  | 0 => ("NoticeBoxesModel", "s", "[I", true)
  | 1 => ("NoticeBoxesModel", "seed", "I", false)
  | 2 => ("NoticeBoxesModel", "past", "[I", true)
  | 3 => ("NoticeBoxesModel", "known", "I", false)
  | 4 => ("NoticeBoxesModel", "images", "[I", true)
  | 5 => ("NoticeBoxesModel", "isKept", "[Z", true)
  | 6 => ("NoticeBoxesModel", "bookClient", "[I", true)
  | 7 => ("NoticeBoxesModel", "bookHad", "[I", true)
  | 8 => ("NoticeBoxesModel", "written", "I", false)
  | 9 => ("NoticeBoxesModel", "many", "[I", true)
  | 10 => ("NoticeBoxesModel", "told", "[I", true)
  | 11 => ("NoticeBoxesModel", "isLaid", "Z", false)
  | 12 => ("NoticeBoxesModel", "box", "[I", true)
  | 13 => ("NoticeBoxesModel", "boxes", "I", false)
  | 14 => ("NoticeBoxesModel", "joined", "[I", true)
  | 15 => ("NoticeBoxesModel", "places", "I", false)
  | 16 => ("NoticeBoxesModel", "gets", "I", false)
  | 17 => ("NoticeBoxesModel", "vain", "I", false)
  | _ => ("NoticeBoxesModel", "links", "I", false)
def tyX11 : Nat → FieldType := fun k => match k with
  | 0 => .array .int
  | 1 => .int
  | 2 => .array .int
  | 3 => .int
  | 4 => .array .int
  | 5 => .array .boolean
  | 6 => .array .int
  | 7 => .array .int
  | 8 => .int
  | 9 => .array .int
  | 10 => .array .int
  | 11 => .boolean
  | 12 => .array .int
  | 13 => .int
  | 14 => .array .int
  | 15 => .int
  | 16 => .int
  | 17 => .int
  | _ => .int
abbrev wsX110 : List Cond := u_ws RX11 TX11 19
theorem nmX11 : ∀ a, a < 19 → ∀ b, b < 19 → a ≠ b → (TX11 a).2.1 ≠ (TX11 b).2.1 := by decide +kernel
theorem tyX11_ok : ∀ k, k < 19 → parseFieldDescriptor (TX11 k).2.2.1 = some (tyX11 k) := by decide +kernel
abbrev cX11_init : ByteArray := prog_13_method_1_code
def yX11_init : MethodName := ⟨RX11, "<init>", "()V"⟩
abbrev cX11_in : ByteArray := prog_13_method_2_code
def yX11_in : MethodName := ⟨RX11, "in", "(III)Z"⟩
abbrev cX11_of : ByteArray := prog_13_method_3_code
def yX11_of : MethodName := ⟨RX11, "of", "(II)I"⟩
abbrev cX11_sets : ByteArray := prog_13_method_4_code
def yX11_sets : MethodName := ⟨RX11, "sets", "(III)V"⟩
abbrev cX11_wish : ByteArray := prog_13_method_5_code
def yX11_wish : MethodName := ⟨RX11, "wish", "(II)I"⟩
abbrev cX11_isBroker : ByteArray := prog_13_method_6_code
def yX11_isBroker : MethodName := ⟨RX11, "isBroker", "(I)Z"⟩
abbrev cX11_isClient : ByteArray := prog_13_method_7_code
def yX11_isClient : MethodName := ⟨RX11, "isClient", "(I)Z"⟩
abbrev cX11_isWish : ByteArray := prog_13_method_8_code
def yX11_isWish : MethodName := ⟨RX11, "isWish", "(I)Z"⟩
abbrev cX11_areNeighbours : ByteArray := prog_13_method_9_code
def yX11_areNeighbours : MethodName := ⟨RX11, "areNeighbours", "(II)Z"⟩
abbrev cX11_at : ByteArray := prog_13_method_10_code
def yX11_at : MethodName := ⟨RX11, "at", "(II)I"⟩
abbrev cX11_spread : ByteArray := prog_13_method_11_code
def yX11_spread : MethodName := ⟨RX11, "spread", "(II)I"⟩
abbrev cX11_sizeOf : ByteArray := prog_13_method_12_code
def yX11_sizeOf : MethodName := ⟨RX11, "sizeOf", "(I)I"⟩
abbrev cX11_covers : ByteArray := prog_13_method_13_code
def yX11_covers : MethodName := ⟨RX11, "covers", "(II)Z"⟩
abbrev cX11_shared : ByteArray := prog_13_method_14_code
def yX11_shared : MethodName := ⟨RX11, "shared", "(II)I"⟩
abbrev cX11_order : ByteArray := prog_13_method_15_code
def yX11_order : MethodName := ⟨RX11, "order", "(II)I"⟩
abbrev cX11_copies : ByteArray := prog_13_method_16_code
def yX11_copies : MethodName := ⟨RX11, "copies", "(II)V"⟩
abbrev cX11_settles : ByteArray := prog_13_method_17_code
def yX11_settles : MethodName := ⟨RX11, "settles", "()V"⟩
abbrev cX11_comes : ByteArray := prog_13_method_19_code
def yX11_comes : MethodName := ⟨RX11, "comes", "()V"⟩
abbrev cX11_wasteOf : ByteArray := prog_13_method_20_code
def yX11_wasteOf : MethodName := ⟨RX11, "wasteOf", "(II)I"⟩
abbrev cX11_joins : ByteArray := prog_13_method_21_code
def yX11_joins : MethodName := ⟨RX11, "joins", "()V"⟩
abbrev cX11_gathersWishes : ByteArray := prog_13_method_22_code
def yX11_gathersWishes : MethodName := ⟨RX11, "gathersWishes", "(I)V"⟩
abbrev cX11_gathersLink : ByteArray := prog_13_method_23_code
def yX11_gathersLink : MethodName := ⟨RX11, "gathersLink", "(I)V"⟩
abbrev cX11_linkOf : ByteArray := prog_13_method_24_code
def yX11_linkOf : MethodName := ⟨RX11, "linkOf", "(II)I"⟩
abbrev cX11_laysLink : ByteArray := prog_13_method_25_code
def yX11_laysLink : MethodName := ⟨RX11, "laysLink", "(II)V"⟩
abbrev cX11_lays : ByteArray := prog_13_method_26_code
def yX11_lays : MethodName := ⟨RX11, "lays", "()V"⟩
abbrev cX11_fits : ByteArray := prog_13_method_27_code
def yX11_fits : MethodName := ⟨RX11, "fits", "([IIIII)Z"⟩
abbrev cX11_goes : ByteArray := prog_13_method_28_code
def yX11_goes : MethodName := ⟨RX11, "goes", "(IIIII)Z"⟩
abbrev cX11_isWished : ByteArray := prog_13_method_29_code
def yX11_isWished : MethodName := ⟨RX11, "isWished", "(IIII)Z"⟩
abbrev cX11_walks : ByteArray := prog_13_method_30_code
def yX11_walks : MethodName := ⟨RX11, "walks", "(IIII)V"⟩
abbrev cX11_bits : ByteArray := prog_13_method_31_code
def yX11_bits : MethodName := ⟨RX11, "bits", "(I)I"⟩
abbrev cX11_logs : ByteArray := prog_13_method_32_code
def yX11_logs : MethodName := ⟨RX11, "logs", "(II)V"⟩
abbrev cX11_waits : ByteArray := prog_13_method_33_code
def yX11_waits : MethodName := ⟨RX11, "waits", "(II)V"⟩
abbrev cX11_puts : ByteArray := prog_13_method_34_code
def yX11_puts : MethodName := ⟨RX11, "puts", "(IIII)I"⟩
abbrev cX11_areThings : ByteArray := prog_13_method_35_code
def yX11_areThings : MethodName := ⟨RX11, "areThings", "(III)Z"⟩
abbrev cX11_allTold : ByteArray := prog_13_method_36_code
def yX11_allTold : MethodName := ⟨RX11, "allTold", "()I"⟩
abbrev cX11_wrong : ByteArray := prog_13_method_37_code
def yX11_wrong : MethodName := ⟨RX11, "wrong", "()I"⟩
abbrev cX11_told : ByteArray := prog_13_method_38_code
def yX11_told : MethodName := ⟨RX11, "told", "(I)I"⟩
abbrev cX11_brokerAt : ByteArray := prog_13_method_39_code
def yX11_brokerAt : MethodName := ⟨RX11, "brokerAt", "(II)I"⟩
abbrev cX11_clientAt : ByteArray := prog_13_method_40_code
def yX11_clientAt : MethodName := ⟨RX11, "clientAt", "(II)I"⟩
abbrev cX11_log : ByteArray := prog_13_method_41_code
def yX11_log : MethodName := ⟨RX11, "log", "(II)I"⟩
abbrev cX11_takesWish : ByteArray := prog_13_method_42_code
def yX11_takesWish : MethodName := ⟨RX11, "takesWish", "(II)V"⟩
abbrev cX11_covered : ByteArray := prog_13_method_43_code
def yX11_covered : MethodName := ⟨RX11, "covered", "(I)I"⟩
abbrev cX11_wishAt : ByteArray := prog_13_method_44_code
def yX11_wishAt : MethodName := ⟨RX11, "wishAt", "(II)I"⟩
abbrev cX11_toldOn : ByteArray := prog_13_method_45_code
def yX11_toldOn : MethodName := ⟨RX11, "toldOn", "(II)I"⟩
abbrev cX11_isWishBox : ByteArray := prog_13_method_46_code
def yX11_isWishBox : MethodName := ⟨RX11, "isWishBox", "()Z"⟩
abbrev cX11_box : ByteArray := prog_13_method_47_code
def yX11_box : MethodName := ⟨RX11, "box", "(IIII)I"⟩
abbrev cX11_would : ByteArray := prog_13_method_48_code
def yX11_would : MethodName := ⟨RX11, "would", "(IIIII)I"⟩
abbrev cX11_deed : ByteArray := prog_13_method_49_code
def yX11_deed : MethodName := ⟨RX11, "deed", "()V"⟩
abbrev cX11_broker : ByteArray := prog_13_method_50_code
def yX11_broker : MethodName := ⟨RX11, "broker", "(I)I"⟩
abbrev cX11_client : ByteArray := prog_13_method_51_code
def yX11_client : MethodName := ⟨RX11, "client", "(I)I"⟩
abbrev cX11_isKind : ByteArray := prog_13_method_52_code
def yX11_isKind : MethodName := ⟨RX11, "isKind", "(II)Z"⟩
abbrev cX11_bounds : ByteArray := prog_13_method_53_code
def yX11_bounds : MethodName := ⟨RX11, "bounds", "(IIII)V"⟩
abbrev cX11_wish_ : ByteArray := prog_13_method_54_code
def yX11_wish_ : MethodName := ⟨RX11, "wish", "(IIIIIII)I"⟩
abbrev cX11_dropsWish : ByteArray := prog_13_method_55_code
def yX11_dropsWish : MethodName := ⟨RX11, "dropsWish", "(I)V"⟩
abbrev cX11_drop : ByteArray := prog_13_method_56_code
def yX11_drop : MethodName := ⟨RX11, "drop", "(I)I"⟩
abbrev cX11_most : ByteArray := prog_13_method_57_code
def yX11_most : MethodName := ⟨RX11, "most", "(I)I"⟩
abbrev cX11_put : ByteArray := prog_13_method_58_code
def yX11_put : MethodName := ⟨RX11, "put", "(IIII)I"⟩
abbrev cX11_leave : ByteArray := prog_13_method_59_code
def yX11_leave : MethodName := ⟨RX11, "leave", "(I)I"⟩
abbrev cX11_come : ByteArray := prog_13_method_60_code
def yX11_come : MethodName := ⟨RX11, "come", "(II)I"⟩
abbrev cX11_part : ByteArray := prog_13_method_61_code
def yX11_part : MethodName := ⟨RX11, "part", "()I"⟩
abbrev cX11_draws : ByteArray := prog_13_method_62_code
def yX11_draws : MethodName := ⟨RX11, "draws", "(I)I"⟩
abbrev cX11_drift : ByteArray := prog_13_method_63_code
def yX11_drift : MethodName := ⟨RX11, "drift", "(I)I"⟩
abbrev cX11_undo : ByteArray := prog_13_method_64_code
def yX11_undo : MethodName := ⟨RX11, "undo", "(I)I"⟩
abbrev cX11_write : ByteArray := prog_13_method_65_code
def yX11_write : MethodName := ⟨RX11, "write", "(II)I"⟩
abbrev cX11_tear : ByteArray := prog_13_method_66_code
def yX11_tear : MethodName := ⟨RX11, "tear", "()I"⟩
abbrev cX11_seed : ByteArray := prog_13_method_67_code
def yX11_seed : MethodName := ⟨RX11, "seed", "(I)I"⟩
abbrev cX11_keep : ByteArray := prog_13_method_68_code
def yX11_keep : MethodName := ⟨RX11, "keep", "(I)I"⟩
abbrev cX11_goBack : ByteArray := prog_13_method_69_code
def yX11_goBack : MethodName := ⟨RX11, "goBack", "(I)I"⟩
def RJ6 : String := "java/lang/Integer"
def TJ6 : u_T := fun k => match k with
  | _ => ("", "", "", false)
def tyJ6 : Nat → FieldType := fun k => match k with
  | _ => .int
abbrev wsJ60 : List Cond := u_ws RJ6 TJ6 0
theorem nmJ6 : ∀ a, a < 0 → ∀ b, b < 0 → a ≠ b → (TJ6 a).2.1 ≠ (TJ6 b).2.1 := by decide +kernel
theorem tyJ6_ok : ∀ k, k < 0 → parseFieldDescriptor (TJ6 k).2.2.1 = some (tyJ6 k) := by decide +kernel
abbrev cJ6_bitCount_0f7a4 : ByteArray := prog_14_method_49_code
def yJ6_bitCount_0f7a4 : MethodName := ⟨RJ6, "bitCount", "(I)I"⟩
def RJ9 : String := "java/lang/Math"
def TJ9 : u_T := fun k => match k with
  | _ => ("", "", "", false)
def tyJ9 : Nat → FieldType := fun k => match k with
  | _ => .int
abbrev wsJ90 : List Cond := u_ws RJ9 TJ9 0
theorem nmJ9 : ∀ a, a < 0 → ∀ b, b < 0 → a ≠ b → (TJ9 a).2.1 ≠ (TJ9 b).2.1 := by decide +kernel
theorem tyJ9_ok : ∀ k, k < 0 → parseFieldDescriptor (TJ9 k).2.2.1 = some (tyJ9 k) := by decide +kernel
abbrev cJ9_max_7cf53 : ByteArray := prog_15_method_65_code
def yJ9_max_7cf53 : MethodName := ⟨RJ9, "max", "(II)I"⟩
abbrev cJ9_min_7cf53 : ByteArray := prog_15_method_69_code
def yJ9_min_7cf53 : MethodName := ⟨RJ9, "min", "(II)I"⟩
def RJ10 : String := "java/lang/System"
def TJ10 : u_T := fun k => match k with
  | _ => ("", "", "", false)
def tyJ10 : Nat → FieldType := fun k => match k with
  | _ => .int
abbrev wsJ100 : List Cond := u_ws RJ10 TJ10 0
theorem nmJ10 : ∀ a, a < 0 → ∀ b, b < 0 → a ≠ b → (TJ10 a).2.1 ≠ (TJ10 b).2.1 := by decide +kernel
theorem tyJ10_ok : ∀ k, k < 0 → parseFieldDescriptor (TJ10 k).2.2.1 = some (tyJ10 k) := by decide +kernel
def RL : String := "NoticeBoxesLaw"
abbrev cL_law : ByteArray := code
def yL_law : MethodName := ⟨RL, "law", "([I)Z"⟩
abbrev vwCl : List vw_C := [(RX0, TX0, 3), (RX2, TX2, 2), (RX3, TX3, 7), (RX4, TX4, 1), (RX5, TX5, 3), (RX6, TX6, 5), (RX7, TX7, 3), (RX8, TX8, 11), (RX9, TX9, 3), (RX10, TX10, 7), (RX11, TX11, 19)]
/-! ===== END names ===== -/
end
section
theorem dX0_init_0 : decode cX0_init 0 = .ok (.aload_n 0, 1) := by decide +kernel
theorem dX0_init_1 : decode cX0_init 1 = .ok (.invokespecial 3, 3) := by decide +kernel
theorem dX0_init_4 : decode cX0_init 4 = .ok (.aload_n 0, 1) := by decide +kernel
theorem dX0_init_5 : decode cX0_init 5 = .ok (.bipush 20, 2) := by decide +kernel
theorem dX0_init_7 : decode cX0_init 7 = .ok (.newarray .int, 2) := by decide +kernel
theorem dX0_init_9 : decode cX0_init 9 = .ok (.putfield 9, 3) := by decide +kernel
theorem dX0_init_12 : decode cX0_init 12 = .ok (.aload_n 0, 1) := by decide +kernel
theorem dX0_init_13 : decode cX0_init 13 = .ok (.bipush 20, 2) := by decide +kernel
theorem dX0_init_15 : decode cX0_init 15 = .ok (.newarray .int, 2) := by decide +kernel
theorem dX0_init_17 : decode cX0_init 17 = .ok (.putfield 15, 3) := by decide +kernel
theorem dX0_init_20 : decode cX0_init 20 = .ok (.return_, 1) := by decide +kernel
theorem dX0_add_0 : decode cX0_add 0 = .ok (.aload_n 0, 1) := by decide +kernel
theorem dX0_add_1 : decode cX0_add 1 = .ok (.getfield 9, 3) := by decide +kernel
theorem dX0_add_4 : decode cX0_add 4 = .ok (.aload_n 0, 1) := by decide +kernel
theorem dX0_add_5 : decode cX0_add 5 = .ok (.getfield 18, 3) := by decide +kernel
theorem dX0_add_8 : decode cX0_add 8 = .ok (.iload_n 1, 1) := by decide +kernel
theorem dX0_add_9 : decode cX0_add 9 = .ok (.iastore, 1) := by decide +kernel
theorem dX0_add_10 : decode cX0_add 10 = .ok (.aload_n 0, 1) := by decide +kernel
theorem dX0_add_11 : decode cX0_add 11 = .ok (.getfield 15, 3) := by decide +kernel
theorem dX0_add_14 : decode cX0_add 14 = .ok (.aload_n 0, 1) := by decide +kernel
theorem dX0_add_15 : decode cX0_add 15 = .ok (.getfield 18, 3) := by decide +kernel
theorem dX0_add_18 : decode cX0_add 18 = .ok (.iload_n 2, 1) := by decide +kernel
theorem dX0_add_19 : decode cX0_add 19 = .ok (.iastore, 1) := by decide +kernel
theorem dX0_add_20 : decode cX0_add 20 = .ok (.aload_n 0, 1) := by decide +kernel
theorem dX0_add_21 : decode cX0_add 21 = .ok (.dup, 1) := by decide +kernel
theorem dX0_add_22 : decode cX0_add 22 = .ok (.getfield 18, 3) := by decide +kernel
theorem dX0_add_25 : decode cX0_add 25 = .ok (.iconst 1, 1) := by decide +kernel
theorem dX0_add_26 : decode cX0_add 26 = .ok (.iadd, 1) := by decide +kernel
theorem dX0_add_27 : decode cX0_add 27 = .ok (.putfield 18, 3) := by decide +kernel
theorem dX0_add_30 : decode cX0_add 30 = .ok (.return_, 1) := by decide +kernel
theorem dX0_firstWrong_0 : decode cX0_firstWrong 0 = .ok (.iconst 0, 1) := by decide +kernel
theorem dX0_firstWrong_1 : decode cX0_firstWrong 1 = .ok (.istore_n 2, 1) := by decide +kernel
theorem dX0_firstWrong_2 : decode cX0_firstWrong 2 = .ok (.iload_n 2, 1) := by decide +kernel
theorem dX0_firstWrong_3 : decode cX0_firstWrong 3 = .ok (.aload_n 0, 1) := by decide +kernel
theorem dX0_firstWrong_4 : decode cX0_firstWrong 4 = .ok (.getfield 18, 3) := by decide +kernel
theorem dX0_firstWrong_7 : decode cX0_firstWrong 7 = .ok (.if_icmp .ge 44, 3) := by decide +kernel
theorem dX0_firstWrong_10 : decode cX0_firstWrong 10 = .ok (.aload_n 0, 1) := by decide +kernel
theorem dX0_firstWrong_11 : decode cX0_firstWrong 11 = .ok (.getfield 9, 3) := by decide +kernel
theorem dX0_firstWrong_14 : decode cX0_firstWrong 14 = .ok (.iload_n 2, 1) := by decide +kernel
theorem dX0_firstWrong_15 : decode cX0_firstWrong 15 = .ok (.iaload, 1) := by decide +kernel
theorem dX0_firstWrong_16 : decode cX0_firstWrong 16 = .ok (.istore_n 3, 1) := by decide +kernel
theorem dX0_firstWrong_17 : decode cX0_firstWrong 17 = .ok (.aload_n 1, 1) := by decide +kernel
theorem dX0_firstWrong_18 : decode cX0_firstWrong 18 = .ok (.iload_n 3, 1) := by decide +kernel
theorem dX0_firstWrong_19 : decode cX0_firstWrong 19 = .ok (.invokevirtual 22, 3) := by decide +kernel
theorem dX0_firstWrong_22 : decode cX0_firstWrong 22 = .ok (.ifCond .eq 21, 3) := by decide +kernel
theorem dX0_firstWrong_25 : decode cX0_firstWrong 25 = .ok (.aload_n 1, 1) := by decide +kernel
theorem dX0_firstWrong_26 : decode cX0_firstWrong 26 = .ok (.getfield 28, 3) := by decide +kernel
theorem dX0_firstWrong_29 : decode cX0_firstWrong 29 = .ok (.iload_n 3, 1) := by decide +kernel
theorem dX0_firstWrong_30 : decode cX0_firstWrong 30 = .ok (.aaload, 1) := by decide +kernel
theorem dX0_firstWrong_31 : decode cX0_firstWrong 31 = .ok (.getfield 32, 3) := by decide +kernel
theorem dX0_firstWrong_34 : decode cX0_firstWrong 34 = .ok (.aload_n 0, 1) := by decide +kernel
theorem dX0_firstWrong_35 : decode cX0_firstWrong 35 = .ok (.getfield 15, 3) := by decide +kernel
theorem dX0_firstWrong_38 : decode cX0_firstWrong 38 = .ok (.iload_n 2, 1) := by decide +kernel
theorem dX0_firstWrong_39 : decode cX0_firstWrong 39 = .ok (.iaload, 1) := by decide +kernel
theorem dX0_firstWrong_40 : decode cX0_firstWrong 40 = .ok (.if_icmp .eq 5, 3) := by decide +kernel
theorem dX0_firstWrong_43 : decode cX0_firstWrong 43 = .ok (.iload_n 2, 1) := by decide +kernel
theorem dX0_firstWrong_44 : decode cX0_firstWrong 44 = .ok (.ireturn, 1) := by decide +kernel
theorem dX0_firstWrong_45 : decode cX0_firstWrong 45 = .ok (.iinc 2 1, 3) := by decide +kernel
theorem dX0_firstWrong_48 : decode cX0_firstWrong 48 = .ok (.goto (-46), 3) := by decide +kernel
theorem dX0_firstWrong_51 : decode cX0_firstWrong 51 = .ok (.iconst (-1), 1) := by decide +kernel
theorem dX0_firstWrong_52 : decode cX0_firstWrong 52 = .ok (.ireturn, 1) := by decide +kernel
theorem dX1_ofNotice_0 : decode cX1_ofNotice 0 = .ok (.iconst 0, 1) := by decide +kernel
theorem dX1_ofNotice_1 : decode cX1_ofNotice 1 = .ok (.iload_n 0, 1) := by decide +kernel
theorem dX1_ofNotice_2 : decode cX1_ofNotice 2 = .ok (.iload_n 0, 1) := by decide +kernel
theorem dX1_ofNotice_3 : decode cX1_ofNotice 3 = .ok (.invokestatic 9, 3) := by decide +kernel
theorem dX1_ofNotice_6 : decode cX1_ofNotice 6 = .ok (.iload_n 1, 1) := by decide +kernel
theorem dX1_ofNotice_7 : decode cX1_ofNotice 7 = .ok (.iload_n 1, 1) := by decide +kernel
theorem dX1_ofNotice_8 : decode cX1_ofNotice 8 = .ok (.invokestatic 9, 3) := by decide +kernel
theorem dX1_ofNotice_11 : decode cX1_ofNotice 11 = .ok (.iload_n 2, 1) := by decide +kernel
theorem dX1_ofNotice_12 : decode cX1_ofNotice 12 = .ok (.iload_n 2, 1) := by decide +kernel
theorem dX1_ofNotice_13 : decode cX1_ofNotice 13 = .ok (.invokestatic 9, 3) := by decide +kernel
theorem dX1_ofNotice_16 : decode cX1_ofNotice 16 = .ok (.ireturn, 1) := by decide +kernel
theorem dX1_withBounds_0 : decode cX1_withBounds 0 = .ok (.iload_n 0, 1) := by decide +kernel
theorem dX1_withBounds_1 : decode cX1_withBounds 1 = .ok (.bipush 8, 2) := by decide +kernel
theorem dX1_withBounds_3 : decode cX1_withBounds 3 = .ok (.ishl, 1) := by decide +kernel
theorem dX1_withBounds_4 : decode cX1_withBounds 4 = .ok (.iload_n 1, 1) := by decide +kernel
theorem dX1_withBounds_5 : decode cX1_withBounds 5 = .ok (.iconst 4, 1) := by decide +kernel
theorem dX1_withBounds_6 : decode cX1_withBounds 6 = .ok (.ishl, 1) := by decide +kernel
theorem dX1_withBounds_7 : decode cX1_withBounds 7 = .ok (.ior, 1) := by decide +kernel
theorem dX1_withBounds_8 : decode cX1_withBounds 8 = .ok (.iload_n 2, 1) := by decide +kernel
theorem dX1_withBounds_9 : decode cX1_withBounds 9 = .ok (.ior, 1) := by decide +kernel
theorem dX1_withBounds_10 : decode cX1_withBounds 10 = .ok (.ireturn, 1) := by decide +kernel
theorem dX1_withKind_0 : decode cX1_withKind 0 = .ok (.iload_n 1, 1) := by decide +kernel
theorem dX1_withKind_1 : decode cX1_withKind 1 = .ok (.iconst 2, 1) := by decide +kernel
theorem dX1_withKind_2 : decode cX1_withKind 2 = .ok (.if_icmp .eq 8, 3) := by decide +kernel
theorem dX1_withKind_5 : decode cX1_withKind 5 = .ok (.iload_n 1, 1) := by decide +kernel
theorem dX1_withKind_6 : decode cX1_withKind 6 = .ok (.iconst 3, 1) := by decide +kernel
theorem dX1_withKind_7 : decode cX1_withKind 7 = .ok (.if_icmp .ne 7, 3) := by decide +kernel
theorem dX1_withKind_10 : decode cX1_withKind 10 = .ok (.iload_n 2, 1) := by decide +kernel
theorem dX1_withKind_11 : decode cX1_withKind 11 = .ok (.goto 4, 3) := by decide +kernel
theorem dX1_withKind_14 : decode cX1_withKind 14 = .ok (.iconst 0, 1) := by decide +kernel
theorem dX1_withKind_15 : decode cX1_withKind 15 = .ok (.istore_n 3, 1) := by decide +kernel
theorem dX1_withKind_16 : decode cX1_withKind 16 = .ok (.iload_n 1, 1) := by decide +kernel
theorem dX1_withKind_17 : decode cX1_withKind 17 = .ok (.iconst 1, 1) := by decide +kernel
theorem dX1_withKind_18 : decode cX1_withKind 18 = .ok (.if_icmp .eq 8, 3) := by decide +kernel
theorem dX1_withKind_21 : decode cX1_withKind 21 = .ok (.iload_n 1, 1) := by decide +kernel
theorem dX1_withKind_22 : decode cX1_withKind 22 = .ok (.iconst 3, 1) := by decide +kernel
theorem dX1_withKind_23 : decode cX1_withKind 23 = .ok (.if_icmp .ne 7, 3) := by decide +kernel
theorem dX1_withKind_26 : decode cX1_withKind 26 = .ok (.iload_n 2, 1) := by decide +kernel
theorem dX1_withKind_27 : decode cX1_withKind 27 = .ok (.goto 5, 3) := by decide +kernel
theorem dX1_withKind_30 : decode cX1_withKind 30 = .ok (.bipush 9, 2) := by decide +kernel
theorem dX1_withKind_32 : decode cX1_withKind 32 = .ok (.istore 4, 2) := by decide +kernel
theorem dX1_withKind_34 : decode cX1_withKind 34 = .ok (.iload_n 0, 1) := by decide +kernel
theorem dX1_withKind_35 : decode cX1_withKind 35 = .ok (.iload_n 3, 1) := by decide +kernel
theorem dX1_withKind_36 : decode cX1_withKind 36 = .ok (.iload 4, 2) := by decide +kernel
theorem dX1_withKind_38 : decode cX1_withKind 38 = .ok (.invokestatic 9, 3) := by decide +kernel
theorem dX1_withKind_41 : decode cX1_withKind 41 = .ok (.ireturn, 1) := by decide +kernel
theorem dX1_bound_0 : decode cX1_bound 0 = .ok (.iload_n 0, 1) := by decide +kernel
theorem dX1_bound_1 : decode cX1_bound 1 = .ok (.bipush 20, 2) := by decide +kernel
theorem dX1_bound_3 : decode cX1_bound 3 = .ok (.iconst 4, 1) := by decide +kernel
theorem dX1_bound_4 : decode cX1_bound 4 = .ok (.iload_n 1, 1) := by decide +kernel
theorem dX1_bound_5 : decode cX1_bound 5 = .ok (.imul, 1) := by decide +kernel
theorem dX1_bound_6 : decode cX1_bound 6 = .ok (.isub, 1) := by decide +kernel
theorem dX1_bound_7 : decode cX1_bound 7 = .ok (.ishr, 1) := by decide +kernel
theorem dX1_bound_8 : decode cX1_bound 8 = .ok (.bipush 15, 2) := by decide +kernel
theorem dX1_bound_10 : decode cX1_bound 10 = .ok (.iand, 1) := by decide +kernel
theorem dX1_bound_11 : decode cX1_bound 11 = .ok (.ireturn, 1) := by decide +kernel
theorem dX1_from_0 : decode cX1_from 0 = .ok (.iload_n 0, 1) := by decide +kernel
theorem dX1_from_1 : decode cX1_from 1 = .ok (.bipush 20, 2) := by decide +kernel
theorem dX1_from_3 : decode cX1_from 3 = .ok (.bipush 8, 2) := by decide +kernel
theorem dX1_from_5 : decode cX1_from 5 = .ok (.iload_n 1, 1) := by decide +kernel
theorem dX1_from_6 : decode cX1_from 6 = .ok (.imul, 1) := by decide +kernel
theorem dX1_from_7 : decode cX1_from 7 = .ok (.isub, 1) := by decide +kernel
theorem dX1_from_8 : decode cX1_from 8 = .ok (.ishr, 1) := by decide +kernel
theorem dX1_from_9 : decode cX1_from 9 = .ok (.bipush 15, 2) := by decide +kernel
theorem dX1_from_11 : decode cX1_from 11 = .ok (.iand, 1) := by decide +kernel
theorem dX1_from_12 : decode cX1_from 12 = .ok (.ireturn, 1) := by decide +kernel
theorem dX1_to_0 : decode cX1_to 0 = .ok (.iload_n 0, 1) := by decide +kernel
theorem dX1_to_1 : decode cX1_to 1 = .ok (.bipush 16, 2) := by decide +kernel
theorem dX1_to_3 : decode cX1_to 3 = .ok (.bipush 8, 2) := by decide +kernel
theorem dX1_to_5 : decode cX1_to 5 = .ok (.iload_n 1, 1) := by decide +kernel
theorem dX1_to_6 : decode cX1_to 6 = .ok (.imul, 1) := by decide +kernel
theorem dX1_to_7 : decode cX1_to 7 = .ok (.isub, 1) := by decide +kernel
theorem dX1_to_8 : decode cX1_to 8 = .ok (.ishr, 1) := by decide +kernel
theorem dX1_to_9 : decode cX1_to 9 = .ok (.bipush 15, 2) := by decide +kernel
theorem dX1_to_11 : decode cX1_to 11 = .ok (.iand, 1) := by decide +kernel
theorem dX1_to_12 : decode cX1_to 12 = .ok (.ireturn, 1) := by decide +kernel
theorem dX1_size_0 : decode cX1_size 0 = .ok (.iconst 1, 1) := by decide +kernel
theorem dX1_size_1 : decode cX1_size 1 = .ok (.istore_n 1, 1) := by decide +kernel
theorem dX1_size_2 : decode cX1_size 2 = .ok (.iconst 0, 1) := by decide +kernel
theorem dX1_size_3 : decode cX1_size 3 = .ok (.istore_n 2, 1) := by decide +kernel
theorem dX1_size_4 : decode cX1_size 4 = .ok (.iload_n 2, 1) := by decide +kernel
theorem dX1_size_5 : decode cX1_size 5 = .ok (.iconst 3, 1) := by decide +kernel
theorem dX1_size_6 : decode cX1_size 6 = .ok (.if_icmp .ge 25, 3) := by decide +kernel
theorem dX1_size_9 : decode cX1_size 9 = .ok (.iload_n 1, 1) := by decide +kernel
theorem dX1_size_10 : decode cX1_size 10 = .ok (.iload_n 0, 1) := by decide +kernel
theorem dX1_size_11 : decode cX1_size 11 = .ok (.iload_n 2, 1) := by decide +kernel
theorem dX1_size_12 : decode cX1_size 12 = .ok (.invokestatic 15, 3) := by decide +kernel
theorem dX1_size_15 : decode cX1_size 15 = .ok (.iload_n 0, 1) := by decide +kernel
theorem dX1_size_16 : decode cX1_size 16 = .ok (.iload_n 2, 1) := by decide +kernel
theorem dX1_size_17 : decode cX1_size 17 = .ok (.invokestatic 19, 3) := by decide +kernel
theorem dX1_size_20 : decode cX1_size 20 = .ok (.isub, 1) := by decide +kernel
theorem dX1_size_21 : decode cX1_size 21 = .ok (.iconst 1, 1) := by decide +kernel
theorem dX1_size_22 : decode cX1_size 22 = .ok (.iadd, 1) := by decide +kernel
theorem dX1_size_23 : decode cX1_size 23 = .ok (.imul, 1) := by decide +kernel
theorem dX1_size_24 : decode cX1_size 24 = .ok (.istore_n 1, 1) := by decide +kernel
theorem dX1_size_25 : decode cX1_size 25 = .ok (.iinc 2 1, 3) := by decide +kernel
theorem dX1_size_28 : decode cX1_size 28 = .ok (.goto (-24), 3) := by decide +kernel
theorem dX1_size_31 : decode cX1_size 31 = .ok (.iload_n 1, 1) := by decide +kernel
theorem dX1_size_32 : decode cX1_size 32 = .ok (.ireturn, 1) := by decide +kernel
theorem dX1_sizeOfCommon_0 : decode cX1_sizeOfCommon 0 = .ok (.iconst 1, 1) := by decide +kernel
theorem dX1_sizeOfCommon_1 : decode cX1_sizeOfCommon 1 = .ok (.istore_n 2, 1) := by decide +kernel
theorem dX1_sizeOfCommon_2 : decode cX1_sizeOfCommon 2 = .ok (.iconst 0, 1) := by decide +kernel
theorem dX1_sizeOfCommon_3 : decode cX1_sizeOfCommon 3 = .ok (.istore_n 3, 1) := by decide +kernel
theorem dX1_sizeOfCommon_4 : decode cX1_sizeOfCommon 4 = .ok (.iload_n 3, 1) := by decide +kernel
theorem dX1_sizeOfCommon_5 : decode cX1_sizeOfCommon 5 = .ok (.iconst 3, 1) := by decide +kernel
theorem dX1_sizeOfCommon_6 : decode cX1_sizeOfCommon 6 = .ok (.if_icmp .ge 53, 3) := by decide +kernel
theorem dX1_sizeOfCommon_9 : decode cX1_sizeOfCommon 9 = .ok (.iload_n 0, 1) := by decide +kernel
theorem dX1_sizeOfCommon_10 : decode cX1_sizeOfCommon 10 = .ok (.iload_n 3, 1) := by decide +kernel
theorem dX1_sizeOfCommon_11 : decode cX1_sizeOfCommon 11 = .ok (.invokestatic 19, 3) := by decide +kernel
theorem dX1_sizeOfCommon_14 : decode cX1_sizeOfCommon 14 = .ok (.iload_n 1, 1) := by decide +kernel
theorem dX1_sizeOfCommon_15 : decode cX1_sizeOfCommon 15 = .ok (.iload_n 3, 1) := by decide +kernel
theorem dX1_sizeOfCommon_16 : decode cX1_sizeOfCommon 16 = .ok (.invokestatic 19, 3) := by decide +kernel
theorem dX1_sizeOfCommon_19 : decode cX1_sizeOfCommon 19 = .ok (.invokestatic 22, 3) := by decide +kernel
theorem dX1_sizeOfCommon_22 : decode cX1_sizeOfCommon 22 = .ok (.istore 4, 2) := by decide +kernel
theorem dX1_sizeOfCommon_24 : decode cX1_sizeOfCommon 24 = .ok (.iload_n 0, 1) := by decide +kernel
theorem dX1_sizeOfCommon_25 : decode cX1_sizeOfCommon 25 = .ok (.iload_n 3, 1) := by decide +kernel
theorem dX1_sizeOfCommon_26 : decode cX1_sizeOfCommon 26 = .ok (.invokestatic 15, 3) := by decide +kernel
theorem dX1_sizeOfCommon_29 : decode cX1_sizeOfCommon 29 = .ok (.iload_n 1, 1) := by decide +kernel
theorem dX1_sizeOfCommon_30 : decode cX1_sizeOfCommon 30 = .ok (.iload_n 3, 1) := by decide +kernel
theorem dX1_sizeOfCommon_31 : decode cX1_sizeOfCommon 31 = .ok (.invokestatic 15, 3) := by decide +kernel
theorem dX1_sizeOfCommon_34 : decode cX1_sizeOfCommon 34 = .ok (.invokestatic 27, 3) := by decide +kernel
theorem dX1_sizeOfCommon_37 : decode cX1_sizeOfCommon 37 = .ok (.istore 5, 2) := by decide +kernel
theorem dX1_sizeOfCommon_39 : decode cX1_sizeOfCommon 39 = .ok (.iload_n 2, 1) := by decide +kernel
theorem dX1_sizeOfCommon_40 : decode cX1_sizeOfCommon 40 = .ok (.iconst 0, 1) := by decide +kernel
theorem dX1_sizeOfCommon_41 : decode cX1_sizeOfCommon 41 = .ok (.iload 5, 2) := by decide +kernel
theorem dX1_sizeOfCommon_43 : decode cX1_sizeOfCommon 43 = .ok (.iload 4, 2) := by decide +kernel
theorem dX1_sizeOfCommon_45 : decode cX1_sizeOfCommon 45 = .ok (.isub, 1) := by decide +kernel
theorem dX1_sizeOfCommon_46 : decode cX1_sizeOfCommon 46 = .ok (.iconst 1, 1) := by decide +kernel
theorem dX1_sizeOfCommon_47 : decode cX1_sizeOfCommon 47 = .ok (.iadd, 1) := by decide +kernel
theorem dX1_sizeOfCommon_48 : decode cX1_sizeOfCommon 48 = .ok (.invokestatic 22, 3) := by decide +kernel
theorem dX1_sizeOfCommon_51 : decode cX1_sizeOfCommon 51 = .ok (.imul, 1) := by decide +kernel
theorem dX1_sizeOfCommon_52 : decode cX1_sizeOfCommon 52 = .ok (.istore_n 2, 1) := by decide +kernel
theorem dX1_sizeOfCommon_53 : decode cX1_sizeOfCommon 53 = .ok (.iinc 3 1, 3) := by decide +kernel
theorem dX1_sizeOfCommon_56 : decode cX1_sizeOfCommon 56 = .ok (.goto (-52), 3) := by decide +kernel
theorem dX1_sizeOfCommon_59 : decode cX1_sizeOfCommon 59 = .ok (.iload_n 2, 1) := by decide +kernel
theorem dX1_sizeOfCommon_60 : decode cX1_sizeOfCommon 60 = .ok (.ireturn, 1) := by decide +kernel
theorem dX1_covers_0 : decode cX1_covers 0 = .ok (.iconst 0, 1) := by decide +kernel
theorem dX1_covers_1 : decode cX1_covers 1 = .ok (.istore_n 2, 1) := by decide +kernel
theorem dX1_covers_2 : decode cX1_covers 2 = .ok (.iload_n 2, 1) := by decide +kernel
theorem dX1_covers_3 : decode cX1_covers 3 = .ok (.iconst 3, 1) := by decide +kernel
theorem dX1_covers_4 : decode cX1_covers 4 = .ok (.if_icmp .ge 37, 3) := by decide +kernel
theorem dX1_covers_7 : decode cX1_covers 7 = .ok (.iload_n 1, 1) := by decide +kernel
theorem dX1_covers_8 : decode cX1_covers 8 = .ok (.iload_n 2, 1) := by decide +kernel
theorem dX1_covers_9 : decode cX1_covers 9 = .ok (.invokestatic 19, 3) := by decide +kernel
theorem dX1_covers_12 : decode cX1_covers 12 = .ok (.iload_n 0, 1) := by decide +kernel
theorem dX1_covers_13 : decode cX1_covers 13 = .ok (.iload_n 2, 1) := by decide +kernel
theorem dX1_covers_14 : decode cX1_covers 14 = .ok (.invokestatic 19, 3) := by decide +kernel
theorem dX1_covers_17 : decode cX1_covers 17 = .ok (.if_icmp .lt 16, 3) := by decide +kernel
theorem dX1_covers_20 : decode cX1_covers 20 = .ok (.iload_n 1, 1) := by decide +kernel
theorem dX1_covers_21 : decode cX1_covers 21 = .ok (.iload_n 2, 1) := by decide +kernel
theorem dX1_covers_22 : decode cX1_covers 22 = .ok (.invokestatic 15, 3) := by decide +kernel
theorem dX1_covers_25 : decode cX1_covers 25 = .ok (.iload_n 0, 1) := by decide +kernel
theorem dX1_covers_26 : decode cX1_covers 26 = .ok (.iload_n 2, 1) := by decide +kernel
theorem dX1_covers_27 : decode cX1_covers 27 = .ok (.invokestatic 15, 3) := by decide +kernel
theorem dX1_covers_30 : decode cX1_covers 30 = .ok (.if_icmp .le 5, 3) := by decide +kernel
theorem dX1_covers_33 : decode cX1_covers 33 = .ok (.iconst 0, 1) := by decide +kernel
theorem dX1_covers_34 : decode cX1_covers 34 = .ok (.ireturn, 1) := by decide +kernel
theorem dX1_covers_35 : decode cX1_covers 35 = .ok (.iinc 2 1, 3) := by decide +kernel
theorem dX1_covers_38 : decode cX1_covers 38 = .ok (.goto (-36), 3) := by decide +kernel
theorem dX1_covers_41 : decode cX1_covers 41 = .ok (.iconst 1, 1) := by decide +kernel
theorem dX1_covers_42 : decode cX1_covers 42 = .ok (.ireturn, 1) := by decide +kernel
theorem dX1_joined_0 : decode cX1_joined 0 = .ok (.iconst 0, 1) := by decide +kernel
theorem dX1_joined_1 : decode cX1_joined 1 = .ok (.istore_n 2, 1) := by decide +kernel
theorem dX1_joined_2 : decode cX1_joined 2 = .ok (.iconst 0, 1) := by decide +kernel
theorem dX1_joined_3 : decode cX1_joined 3 = .ok (.istore_n 3, 1) := by decide +kernel
theorem dX1_joined_4 : decode cX1_joined 4 = .ok (.iload_n 3, 1) := by decide +kernel
theorem dX1_joined_5 : decode cX1_joined 5 = .ok (.iconst 3, 1) := by decide +kernel
theorem dX1_joined_6 : decode cX1_joined 6 = .ok (.if_icmp .ge 40, 3) := by decide +kernel
theorem dX1_joined_9 : decode cX1_joined 9 = .ok (.iload_n 2, 1) := by decide +kernel
theorem dX1_joined_10 : decode cX1_joined 10 = .ok (.iload_n 0, 1) := by decide +kernel
theorem dX1_joined_11 : decode cX1_joined 11 = .ok (.iload_n 3, 1) := by decide +kernel
theorem dX1_joined_12 : decode cX1_joined 12 = .ok (.invokestatic 19, 3) := by decide +kernel
theorem dX1_joined_15 : decode cX1_joined 15 = .ok (.iload_n 1, 1) := by decide +kernel
theorem dX1_joined_16 : decode cX1_joined 16 = .ok (.iload_n 3, 1) := by decide +kernel
theorem dX1_joined_17 : decode cX1_joined 17 = .ok (.invokestatic 19, 3) := by decide +kernel
theorem dX1_joined_20 : decode cX1_joined 20 = .ok (.invokestatic 27, 3) := by decide +kernel
theorem dX1_joined_23 : decode cX1_joined 23 = .ok (.iload_n 0, 1) := by decide +kernel
theorem dX1_joined_24 : decode cX1_joined 24 = .ok (.iload_n 3, 1) := by decide +kernel
theorem dX1_joined_25 : decode cX1_joined 25 = .ok (.invokestatic 15, 3) := by decide +kernel
theorem dX1_joined_28 : decode cX1_joined 28 = .ok (.iload_n 1, 1) := by decide +kernel
theorem dX1_joined_29 : decode cX1_joined 29 = .ok (.iload_n 3, 1) := by decide +kernel
theorem dX1_joined_30 : decode cX1_joined 30 = .ok (.invokestatic 15, 3) := by decide +kernel
theorem dX1_joined_33 : decode cX1_joined 33 = .ok (.invokestatic 22, 3) := by decide +kernel
theorem dX1_joined_36 : decode cX1_joined 36 = .ok (.invokestatic 9, 3) := by decide +kernel
theorem dX1_joined_39 : decode cX1_joined 39 = .ok (.istore_n 2, 1) := by decide +kernel
theorem dX1_joined_40 : decode cX1_joined 40 = .ok (.iinc 3 1, 3) := by decide +kernel
theorem dX1_joined_43 : decode cX1_joined 43 = .ok (.goto (-39), 3) := by decide +kernel
theorem dX1_joined_46 : decode cX1_joined 46 = .ok (.iload_n 2, 1) := by decide +kernel
theorem dX1_joined_47 : decode cX1_joined 47 = .ok (.ireturn, 1) := by decide +kernel
theorem dX1_waste_0 : decode cX1_waste 0 = .ok (.iload_n 0, 1) := by decide +kernel
theorem dX1_waste_1 : decode cX1_waste 1 = .ok (.iload_n 1, 1) := by decide +kernel
theorem dX1_waste_2 : decode cX1_waste 2 = .ok (.invokestatic 30, 3) := by decide +kernel
theorem dX1_waste_5 : decode cX1_waste 5 = .ok (.invokestatic 33, 3) := by decide +kernel
theorem dX1_waste_8 : decode cX1_waste 8 = .ok (.iload_n 0, 1) := by decide +kernel
theorem dX1_waste_9 : decode cX1_waste 9 = .ok (.invokestatic 33, 3) := by decide +kernel
theorem dX1_waste_12 : decode cX1_waste 12 = .ok (.iload_n 1, 1) := by decide +kernel
theorem dX1_waste_13 : decode cX1_waste 13 = .ok (.invokestatic 33, 3) := by decide +kernel
theorem dX1_waste_16 : decode cX1_waste 16 = .ok (.iadd, 1) := by decide +kernel
theorem dX1_waste_17 : decode cX1_waste 17 = .ok (.iload_n 0, 1) := by decide +kernel
theorem dX1_waste_18 : decode cX1_waste 18 = .ok (.iload_n 1, 1) := by decide +kernel
theorem dX1_waste_19 : decode cX1_waste 19 = .ok (.invokestatic 37, 3) := by decide +kernel
theorem dX1_waste_22 : decode cX1_waste 22 = .ok (.isub, 1) := by decide +kernel
theorem dX1_waste_23 : decode cX1_waste 23 = .ok (.isub, 1) := by decide +kernel
theorem dX1_waste_24 : decode cX1_waste 24 = .ok (.ireturn, 1) := by decide +kernel
theorem dX2_init_0 : decode cX2_init 0 = .ok (.aload_n 0, 1) := by decide +kernel
theorem dX2_init_1 : decode cX2_init 1 = .ok (.invokespecial 3, 3) := by decide +kernel
theorem dX2_init_4 : decode cX2_init 4 = .ok (.aload_n 0, 1) := by decide +kernel
theorem dX2_init_5 : decode cX2_init 5 = .ok (.bipush 12, 2) := by decide +kernel
theorem dX2_init_7 : decode cX2_init 7 = .ok (.newarray .int, 2) := by decide +kernel
theorem dX2_init_9 : decode cX2_init 9 = .ok (.putfield 9, 3) := by decide +kernel
theorem dX2_init_12 : decode cX2_init 12 = .ok (.return_, 1) := by decide +kernel
theorem dX2_covers_0 : decode cX2_covers 0 = .ok (.iconst 0, 1) := by decide +kernel
theorem dX2_covers_1 : decode cX2_covers 1 = .ok (.istore_n 2, 1) := by decide +kernel
theorem dX2_covers_2 : decode cX2_covers 2 = .ok (.iload_n 2, 1) := by decide +kernel
theorem dX2_covers_3 : decode cX2_covers 3 = .ok (.aload_n 0, 1) := by decide +kernel
theorem dX2_covers_4 : decode cX2_covers 4 = .ok (.getfield 15, 3) := by decide +kernel
theorem dX2_covers_7 : decode cX2_covers 7 = .ok (.if_icmp .ge 24, 3) := by decide +kernel
theorem dX2_covers_10 : decode cX2_covers 10 = .ok (.aload_n 0, 1) := by decide +kernel
theorem dX2_covers_11 : decode cX2_covers 11 = .ok (.getfield 9, 3) := by decide +kernel
theorem dX2_covers_14 : decode cX2_covers 14 = .ok (.iload_n 2, 1) := by decide +kernel
theorem dX2_covers_15 : decode cX2_covers 15 = .ok (.iaload, 1) := by decide +kernel
theorem dX2_covers_16 : decode cX2_covers 16 = .ok (.iload_n 1, 1) := by decide +kernel
theorem dX2_covers_17 : decode cX2_covers 17 = .ok (.invokestatic 19, 3) := by decide +kernel
theorem dX2_covers_20 : decode cX2_covers 20 = .ok (.ifCond .eq 5, 3) := by decide +kernel
theorem dX2_covers_23 : decode cX2_covers 23 = .ok (.iconst 1, 1) := by decide +kernel
theorem dX2_covers_24 : decode cX2_covers 24 = .ok (.ireturn, 1) := by decide +kernel
theorem dX2_covers_25 : decode cX2_covers 25 = .ok (.iinc 2 1, 3) := by decide +kernel
theorem dX2_covers_28 : decode cX2_covers 28 = .ok (.goto (-26), 3) := by decide +kernel
theorem dX2_covers_31 : decode cX2_covers 31 = .ok (.iconst 0, 1) := by decide +kernel
theorem dX2_covers_32 : decode cX2_covers 32 = .ok (.ireturn, 1) := by decide +kernel
theorem dX2_add_0 : decode cX2_add 0 = .ok (.aload_n 0, 1) := by decide +kernel
theorem dX2_add_1 : decode cX2_add 1 = .ok (.iload_n 1, 1) := by decide +kernel
theorem dX2_add_2 : decode cX2_add 2 = .ok (.invokevirtual 25, 3) := by decide +kernel
theorem dX2_add_5 : decode cX2_add 5 = .ok (.ifCond .eq 4, 3) := by decide +kernel
theorem dX2_add_8 : decode cX2_add 8 = .ok (.return_, 1) := by decide +kernel
theorem dX2_add_9 : decode cX2_add 9 = .ok (.aload_n 0, 1) := by decide +kernel
theorem dX2_add_10 : decode cX2_add 10 = .ok (.iload_n 1, 1) := by decide +kernel
theorem dX2_add_11 : decode cX2_add 11 = .ok (.invokevirtual 28, 3) := by decide +kernel
theorem dX2_add_14 : decode cX2_add 14 = .ok (.aload_n 0, 1) := by decide +kernel
theorem dX2_add_15 : decode cX2_add 15 = .ok (.iload_n 1, 1) := by decide +kernel
theorem dX2_add_16 : decode cX2_add 16 = .ok (.invokevirtual 32, 3) := by decide +kernel
theorem dX2_add_19 : decode cX2_add 19 = .ok (.return_, 1) := by decide +kernel
theorem dX2_cheapestJoin_0 : decode cX2_cheapestJoin 0 = .ok (.ldc 37, 2) := by decide +kernel
theorem dX2_cheapestJoin_2 : decode cX2_cheapestJoin 2 = .ok (.istore_n 1, 1) := by decide +kernel
theorem dX2_cheapestJoin_3 : decode cX2_cheapestJoin 3 = .ok (.iconst 0, 1) := by decide +kernel
theorem dX2_cheapestJoin_4 : decode cX2_cheapestJoin 4 = .ok (.istore_n 2, 1) := by decide +kernel
theorem dX2_cheapestJoin_5 : decode cX2_cheapestJoin 5 = .ok (.iconst 0, 1) := by decide +kernel
theorem dX2_cheapestJoin_6 : decode cX2_cheapestJoin 6 = .ok (.istore_n 3, 1) := by decide +kernel
theorem dX2_cheapestJoin_7 : decode cX2_cheapestJoin 7 = .ok (.iload_n 3, 1) := by decide +kernel
theorem dX2_cheapestJoin_8 : decode cX2_cheapestJoin 8 = .ok (.aload_n 0, 1) := by decide +kernel
theorem dX2_cheapestJoin_9 : decode cX2_cheapestJoin 9 = .ok (.getfield 15, 3) := by decide +kernel
theorem dX2_cheapestJoin_12 : decode cX2_cheapestJoin 12 = .ok (.if_icmp .ge 73, 3) := by decide +kernel
theorem dX2_cheapestJoin_15 : decode cX2_cheapestJoin 15 = .ok (.iload_n 3, 1) := by decide +kernel
theorem dX2_cheapestJoin_16 : decode cX2_cheapestJoin 16 = .ok (.iconst 1, 1) := by decide +kernel
theorem dX2_cheapestJoin_17 : decode cX2_cheapestJoin 17 = .ok (.iadd, 1) := by decide +kernel
theorem dX2_cheapestJoin_18 : decode cX2_cheapestJoin 18 = .ok (.istore 4, 2) := by decide +kernel
theorem dX2_cheapestJoin_20 : decode cX2_cheapestJoin 20 = .ok (.iload 4, 2) := by decide +kernel
theorem dX2_cheapestJoin_22 : decode cX2_cheapestJoin 22 = .ok (.aload_n 0, 1) := by decide +kernel
theorem dX2_cheapestJoin_23 : decode cX2_cheapestJoin 23 = .ok (.getfield 15, 3) := by decide +kernel
theorem dX2_cheapestJoin_26 : decode cX2_cheapestJoin 26 = .ok (.if_icmp .ge 53, 3) := by decide +kernel
theorem dX2_cheapestJoin_29 : decode cX2_cheapestJoin 29 = .ok (.aload_n 0, 1) := by decide +kernel
theorem dX2_cheapestJoin_30 : decode cX2_cheapestJoin 30 = .ok (.getfield 9, 3) := by decide +kernel
theorem dX2_cheapestJoin_33 : decode cX2_cheapestJoin 33 = .ok (.iload_n 3, 1) := by decide +kernel
theorem dX2_cheapestJoin_34 : decode cX2_cheapestJoin 34 = .ok (.iaload, 1) := by decide +kernel
theorem dX2_cheapestJoin_35 : decode cX2_cheapestJoin 35 = .ok (.aload_n 0, 1) := by decide +kernel
theorem dX2_cheapestJoin_36 : decode cX2_cheapestJoin 36 = .ok (.getfield 9, 3) := by decide +kernel
theorem dX2_cheapestJoin_39 : decode cX2_cheapestJoin 39 = .ok (.iload 4, 2) := by decide +kernel
theorem dX2_cheapestJoin_41 : decode cX2_cheapestJoin 41 = .ok (.iaload, 1) := by decide +kernel
theorem dX2_cheapestJoin_42 : decode cX2_cheapestJoin 42 = .ok (.invokestatic 38, 3) := by decide +kernel
theorem dX2_cheapestJoin_45 : decode cX2_cheapestJoin 45 = .ok (.istore 5, 2) := by decide +kernel
theorem dX2_cheapestJoin_47 : decode cX2_cheapestJoin 47 = .ok (.iload 5, 2) := by decide +kernel
theorem dX2_cheapestJoin_49 : decode cX2_cheapestJoin 49 = .ok (.iload_n 1, 1) := by decide +kernel
theorem dX2_cheapestJoin_50 : decode cX2_cheapestJoin 50 = .ok (.if_icmp .ge 23, 3) := by decide +kernel
theorem dX2_cheapestJoin_53 : decode cX2_cheapestJoin 53 = .ok (.iload 5, 2) := by decide +kernel
theorem dX2_cheapestJoin_55 : decode cX2_cheapestJoin 55 = .ok (.istore_n 1, 1) := by decide +kernel
theorem dX2_cheapestJoin_56 : decode cX2_cheapestJoin 56 = .ok (.aload_n 0, 1) := by decide +kernel
theorem dX2_cheapestJoin_57 : decode cX2_cheapestJoin 57 = .ok (.getfield 9, 3) := by decide +kernel
theorem dX2_cheapestJoin_60 : decode cX2_cheapestJoin 60 = .ok (.iload_n 3, 1) := by decide +kernel
theorem dX2_cheapestJoin_61 : decode cX2_cheapestJoin 61 = .ok (.iaload, 1) := by decide +kernel
theorem dX2_cheapestJoin_62 : decode cX2_cheapestJoin 62 = .ok (.aload_n 0, 1) := by decide +kernel
theorem dX2_cheapestJoin_63 : decode cX2_cheapestJoin 63 = .ok (.getfield 9, 3) := by decide +kernel
theorem dX2_cheapestJoin_66 : decode cX2_cheapestJoin 66 = .ok (.iload 4, 2) := by decide +kernel
theorem dX2_cheapestJoin_68 : decode cX2_cheapestJoin 68 = .ok (.iaload, 1) := by decide +kernel
theorem dX2_cheapestJoin_69 : decode cX2_cheapestJoin 69 = .ok (.invokestatic 42, 3) := by decide +kernel
theorem dX2_cheapestJoin_72 : decode cX2_cheapestJoin 72 = .ok (.istore_n 2, 1) := by decide +kernel
theorem dX2_cheapestJoin_73 : decode cX2_cheapestJoin 73 = .ok (.iinc 4 1, 3) := by decide +kernel
theorem dX2_cheapestJoin_76 : decode cX2_cheapestJoin 76 = .ok (.goto (-56), 3) := by decide +kernel
theorem dX2_cheapestJoin_79 : decode cX2_cheapestJoin 79 = .ok (.iinc 3 1, 3) := by decide +kernel
theorem dX2_cheapestJoin_82 : decode cX2_cheapestJoin 82 = .ok (.goto (-75), 3) := by decide +kernel
theorem dX2_cheapestJoin_85 : decode cX2_cheapestJoin 85 = .ok (.iload_n 2, 1) := by decide +kernel
theorem dX2_cheapestJoin_86 : decode cX2_cheapestJoin 86 = .ok (.ireturn, 1) := by decide +kernel
theorem dX2_removeCoveredBy_0 : decode cX2_removeCoveredBy 0 = .ok (.iconst 0, 1) := by decide +kernel
theorem dX2_removeCoveredBy_1 : decode cX2_removeCoveredBy 1 = .ok (.istore_n 2, 1) := by decide +kernel
theorem dX2_removeCoveredBy_2 : decode cX2_removeCoveredBy 2 = .ok (.iconst 0, 1) := by decide +kernel
theorem dX2_removeCoveredBy_3 : decode cX2_removeCoveredBy 3 = .ok (.istore_n 3, 1) := by decide +kernel
theorem dX2_removeCoveredBy_4 : decode cX2_removeCoveredBy 4 = .ok (.iload_n 3, 1) := by decide +kernel
theorem dX2_removeCoveredBy_5 : decode cX2_removeCoveredBy 5 = .ok (.aload_n 0, 1) := by decide +kernel
theorem dX2_removeCoveredBy_6 : decode cX2_removeCoveredBy 6 = .ok (.getfield 15, 3) := by decide +kernel
theorem dX2_removeCoveredBy_9 : decode cX2_removeCoveredBy 9 = .ok (.if_icmp .ge 37, 3) := by decide +kernel
theorem dX2_removeCoveredBy_12 : decode cX2_removeCoveredBy 12 = .ok (.iload_n 1, 1) := by decide +kernel
theorem dX2_removeCoveredBy_13 : decode cX2_removeCoveredBy 13 = .ok (.aload_n 0, 1) := by decide +kernel
theorem dX2_removeCoveredBy_14 : decode cX2_removeCoveredBy 14 = .ok (.getfield 9, 3) := by decide +kernel
theorem dX2_removeCoveredBy_17 : decode cX2_removeCoveredBy 17 = .ok (.iload_n 3, 1) := by decide +kernel
theorem dX2_removeCoveredBy_18 : decode cX2_removeCoveredBy 18 = .ok (.iaload, 1) := by decide +kernel
theorem dX2_removeCoveredBy_19 : decode cX2_removeCoveredBy 19 = .ok (.invokestatic 19, 3) := by decide +kernel
theorem dX2_removeCoveredBy_22 : decode cX2_removeCoveredBy 22 = .ok (.ifCond .ne 18, 3) := by decide +kernel
theorem dX2_removeCoveredBy_25 : decode cX2_removeCoveredBy 25 = .ok (.aload_n 0, 1) := by decide +kernel
theorem dX2_removeCoveredBy_26 : decode cX2_removeCoveredBy 26 = .ok (.getfield 9, 3) := by decide +kernel
theorem dX2_removeCoveredBy_29 : decode cX2_removeCoveredBy 29 = .ok (.iload_n 2, 1) := by decide +kernel
theorem dX2_removeCoveredBy_30 : decode cX2_removeCoveredBy 30 = .ok (.aload_n 0, 1) := by decide +kernel
theorem dX2_removeCoveredBy_31 : decode cX2_removeCoveredBy 31 = .ok (.getfield 9, 3) := by decide +kernel
theorem dX2_removeCoveredBy_34 : decode cX2_removeCoveredBy 34 = .ok (.iload_n 3, 1) := by decide +kernel
theorem dX2_removeCoveredBy_35 : decode cX2_removeCoveredBy 35 = .ok (.iaload, 1) := by decide +kernel
theorem dX2_removeCoveredBy_36 : decode cX2_removeCoveredBy 36 = .ok (.iastore, 1) := by decide +kernel
theorem dX2_removeCoveredBy_37 : decode cX2_removeCoveredBy 37 = .ok (.iinc 2 1, 3) := by decide +kernel
theorem dX2_removeCoveredBy_40 : decode cX2_removeCoveredBy 40 = .ok (.iinc 3 1, 3) := by decide +kernel
theorem dX2_removeCoveredBy_43 : decode cX2_removeCoveredBy 43 = .ok (.goto (-39), 3) := by decide +kernel
theorem dX2_removeCoveredBy_46 : decode cX2_removeCoveredBy 46 = .ok (.aload_n 0, 1) := by decide +kernel
theorem dX2_removeCoveredBy_47 : decode cX2_removeCoveredBy 47 = .ok (.iload_n 2, 1) := by decide +kernel
theorem dX2_removeCoveredBy_48 : decode cX2_removeCoveredBy 48 = .ok (.putfield 15, 3) := by decide +kernel
theorem dX2_removeCoveredBy_51 : decode cX2_removeCoveredBy 51 = .ok (.return_, 1) := by decide +kernel
theorem dX2_insert_0 : decode cX2_insert 0 = .ok (.aload_n 0, 1) := by decide +kernel
theorem dX2_insert_1 : decode cX2_insert 1 = .ok (.getfield 15, 3) := by decide +kernel
theorem dX2_insert_4 : decode cX2_insert 4 = .ok (.aload_n 0, 1) := by decide +kernel
theorem dX2_insert_5 : decode cX2_insert 5 = .ok (.getfield 9, 3) := by decide +kernel
theorem dX2_insert_8 : decode cX2_insert 8 = .ok (.arraylength, 1) := by decide +kernel
theorem dX2_insert_9 : decode cX2_insert 9 = .ok (.if_icmp .lt 4, 3) := by decide +kernel
theorem dX2_insert_12 : decode cX2_insert 12 = .ok (.return_, 1) := by decide +kernel
theorem dX2_insert_13 : decode cX2_insert 13 = .ok (.aload_n 0, 1) := by decide +kernel
theorem dX2_insert_14 : decode cX2_insert 14 = .ok (.getfield 15, 3) := by decide +kernel
theorem dX2_insert_17 : decode cX2_insert 17 = .ok (.istore_n 2, 1) := by decide +kernel
theorem dX2_insert_18 : decode cX2_insert 18 = .ok (.iload_n 2, 1) := by decide +kernel
theorem dX2_insert_19 : decode cX2_insert 19 = .ok (.ifCond .le 35, 3) := by decide +kernel
theorem dX2_insert_22 : decode cX2_insert 22 = .ok (.aload_n 0, 1) := by decide +kernel
theorem dX2_insert_23 : decode cX2_insert 23 = .ok (.getfield 9, 3) := by decide +kernel
theorem dX2_insert_26 : decode cX2_insert 26 = .ok (.iload_n 2, 1) := by decide +kernel
theorem dX2_insert_27 : decode cX2_insert 27 = .ok (.iconst 1, 1) := by decide +kernel
theorem dX2_insert_28 : decode cX2_insert 28 = .ok (.isub, 1) := by decide +kernel
theorem dX2_insert_29 : decode cX2_insert 29 = .ok (.iaload, 1) := by decide +kernel
theorem dX2_insert_30 : decode cX2_insert 30 = .ok (.iload_n 1, 1) := by decide +kernel
theorem dX2_insert_31 : decode cX2_insert 31 = .ok (.if_icmp .le 23, 3) := by decide +kernel
theorem dX2_insert_34 : decode cX2_insert 34 = .ok (.aload_n 0, 1) := by decide +kernel
theorem dX2_insert_35 : decode cX2_insert 35 = .ok (.getfield 9, 3) := by decide +kernel
theorem dX2_insert_38 : decode cX2_insert 38 = .ok (.iload_n 2, 1) := by decide +kernel
theorem dX2_insert_39 : decode cX2_insert 39 = .ok (.aload_n 0, 1) := by decide +kernel
theorem dX2_insert_40 : decode cX2_insert 40 = .ok (.getfield 9, 3) := by decide +kernel
theorem dX2_insert_43 : decode cX2_insert 43 = .ok (.iload_n 2, 1) := by decide +kernel
theorem dX2_insert_44 : decode cX2_insert 44 = .ok (.iconst 1, 1) := by decide +kernel
theorem dX2_insert_45 : decode cX2_insert 45 = .ok (.isub, 1) := by decide +kernel
theorem dX2_insert_46 : decode cX2_insert 46 = .ok (.iaload, 1) := by decide +kernel
theorem dX2_insert_47 : decode cX2_insert 47 = .ok (.iastore, 1) := by decide +kernel
theorem dX2_insert_48 : decode cX2_insert 48 = .ok (.iinc 2 (-1), 3) := by decide +kernel
theorem dX2_insert_51 : decode cX2_insert 51 = .ok (.goto (-33), 3) := by decide +kernel
theorem dX2_insert_54 : decode cX2_insert 54 = .ok (.aload_n 0, 1) := by decide +kernel
theorem dX2_insert_55 : decode cX2_insert 55 = .ok (.getfield 9, 3) := by decide +kernel
theorem dX2_insert_58 : decode cX2_insert 58 = .ok (.iload_n 2, 1) := by decide +kernel
theorem dX2_insert_59 : decode cX2_insert 59 = .ok (.iload_n 1, 1) := by decide +kernel
theorem dX2_insert_60 : decode cX2_insert 60 = .ok (.iastore, 1) := by decide +kernel
theorem dX2_insert_61 : decode cX2_insert 61 = .ok (.aload_n 0, 1) := by decide +kernel
theorem dX2_insert_62 : decode cX2_insert 62 = .ok (.dup, 1) := by decide +kernel
theorem dX2_insert_63 : decode cX2_insert 63 = .ok (.getfield 15, 3) := by decide +kernel
theorem dX2_insert_66 : decode cX2_insert 66 = .ok (.iconst 1, 1) := by decide +kernel
theorem dX2_insert_67 : decode cX2_insert 67 = .ok (.iadd, 1) := by decide +kernel
theorem dX2_insert_68 : decode cX2_insert 68 = .ok (.putfield 15, 3) := by decide +kernel
theorem dX2_insert_71 : decode cX2_insert 71 = .ok (.return_, 1) := by decide +kernel
theorem dX3_init_0 : decode cX3_init 0 = .ok (.aload_n 0, 1) := by decide +kernel
theorem dX3_init_1 : decode cX3_init 1 = .ok (.invokespecial 3, 3) := by decide +kernel
theorem dX3_init_4 : decode cX3_init 4 = .ok (.aload_n 0, 1) := by decide +kernel
theorem dX3_init_5 : decode cX3_init 5 = .ok (.bipush 8, 2) := by decide +kernel
theorem dX3_init_7 : decode cX3_init 7 = .ok (.newarray .int, 2) := by decide +kernel
theorem dX3_init_9 : decode cX3_init 9 = .ok (.putfield 9, 3) := by decide +kernel
theorem dX3_init_12 : decode cX3_init 12 = .ok (.aload_n 0, 1) := by decide +kernel
theorem dX3_init_13 : decode cX3_init 13 = .ok (.bipush 12, 2) := by decide +kernel
theorem dX3_init_15 : decode cX3_init 15 = .ok (.newarray .int, 2) := by decide +kernel
theorem dX3_init_17 : decode cX3_init 17 = .ok (.putfield 15, 3) := by decide +kernel
theorem dX3_init_20 : decode cX3_init 20 = .ok (.return_, 1) := by decide +kernel
theorem dX3_begin_0 : decode cX3_begin 0 = .ok (.aload_n 0, 1) := by decide +kernel
theorem dX3_begin_1 : decode cX3_begin 1 = .ok (.iload_n 1, 1) := by decide +kernel
theorem dX3_begin_2 : decode cX3_begin 2 = .ok (.putfield 18, 3) := by decide +kernel
theorem dX3_begin_5 : decode cX3_begin 5 = .ok (.aload_n 0, 1) := by decide +kernel
theorem dX3_begin_6 : decode cX3_begin 6 = .ok (.iconst 1, 1) := by decide +kernel
theorem dX3_begin_7 : decode cX3_begin 7 = .ok (.putfield 22, 3) := by decide +kernel
theorem dX3_begin_10 : decode cX3_begin 10 = .ok (.aload_n 0, 1) := by decide +kernel
theorem dX3_begin_11 : decode cX3_begin 11 = .ok (.iconst 0, 1) := by decide +kernel
theorem dX3_begin_12 : decode cX3_begin 12 = .ok (.putfield 26, 3) := by decide +kernel
theorem dX3_begin_15 : decode cX3_begin 15 = .ok (.aload_n 0, 1) := by decide +kernel
theorem dX3_begin_16 : decode cX3_begin 16 = .ok (.iconst 0, 1) := by decide +kernel
theorem dX3_begin_17 : decode cX3_begin 17 = .ok (.putfield 29, 3) := by decide +kernel
theorem dX3_begin_20 : decode cX3_begin 20 = .ok (.aload_n 0, 1) := by decide +kernel
theorem dX3_begin_21 : decode cX3_begin 21 = .ok (.iconst 0, 1) := by decide +kernel
theorem dX3_begin_22 : decode cX3_begin 22 = .ok (.putfield 32, 3) := by decide +kernel
theorem dX3_begin_25 : decode cX3_begin 25 = .ok (.return_, 1) := by decide +kernel
theorem dX3_copyFrom_0 : decode cX3_copyFrom 0 = .ok (.aload_n 0, 1) := by decide +kernel
theorem dX3_copyFrom_1 : decode cX3_copyFrom 1 = .ok (.aload_n 1, 1) := by decide +kernel
theorem dX3_copyFrom_2 : decode cX3_copyFrom 2 = .ok (.getfield 18, 3) := by decide +kernel
theorem dX3_copyFrom_5 : decode cX3_copyFrom 5 = .ok (.putfield 18, 3) := by decide +kernel
theorem dX3_copyFrom_8 : decode cX3_copyFrom 8 = .ok (.aload_n 0, 1) := by decide +kernel
theorem dX3_copyFrom_9 : decode cX3_copyFrom 9 = .ok (.aload_n 1, 1) := by decide +kernel
theorem dX3_copyFrom_10 : decode cX3_copyFrom 10 = .ok (.getfield 22, 3) := by decide +kernel
theorem dX3_copyFrom_13 : decode cX3_copyFrom 13 = .ok (.putfield 22, 3) := by decide +kernel
theorem dX3_copyFrom_16 : decode cX3_copyFrom 16 = .ok (.aload_n 0, 1) := by decide +kernel
theorem dX3_copyFrom_17 : decode cX3_copyFrom 17 = .ok (.aload_n 1, 1) := by decide +kernel
theorem dX3_copyFrom_18 : decode cX3_copyFrom 18 = .ok (.getfield 26, 3) := by decide +kernel
theorem dX3_copyFrom_21 : decode cX3_copyFrom 21 = .ok (.putfield 26, 3) := by decide +kernel
theorem dX3_copyFrom_24 : decode cX3_copyFrom 24 = .ok (.aload_n 0, 1) := by decide +kernel
theorem dX3_copyFrom_25 : decode cX3_copyFrom 25 = .ok (.aload_n 1, 1) := by decide +kernel
theorem dX3_copyFrom_26 : decode cX3_copyFrom 26 = .ok (.getfield 29, 3) := by decide +kernel
theorem dX3_copyFrom_29 : decode cX3_copyFrom 29 = .ok (.putfield 29, 3) := by decide +kernel
theorem dX3_copyFrom_32 : decode cX3_copyFrom 32 = .ok (.aload_n 0, 1) := by decide +kernel
theorem dX3_copyFrom_33 : decode cX3_copyFrom 33 = .ok (.aload_n 1, 1) := by decide +kernel
theorem dX3_copyFrom_34 : decode cX3_copyFrom 34 = .ok (.getfield 32, 3) := by decide +kernel
theorem dX3_copyFrom_37 : decode cX3_copyFrom 37 = .ok (.putfield 32, 3) := by decide +kernel
theorem dX3_copyFrom_40 : decode cX3_copyFrom 40 = .ok (.aload_n 1, 1) := by decide +kernel
theorem dX3_copyFrom_41 : decode cX3_copyFrom 41 = .ok (.getfield 9, 3) := by decide +kernel
theorem dX3_copyFrom_44 : decode cX3_copyFrom 44 = .ok (.iconst 0, 1) := by decide +kernel
theorem dX3_copyFrom_45 : decode cX3_copyFrom 45 = .ok (.aload_n 0, 1) := by decide +kernel
theorem dX3_copyFrom_46 : decode cX3_copyFrom 46 = .ok (.getfield 9, 3) := by decide +kernel
theorem dX3_copyFrom_49 : decode cX3_copyFrom 49 = .ok (.iconst 0, 1) := by decide +kernel
theorem dX3_copyFrom_50 : decode cX3_copyFrom 50 = .ok (.bipush 8, 2) := by decide +kernel
theorem dX3_copyFrom_52 : decode cX3_copyFrom 52 = .ok (.invokestatic 35, 3) := by decide +kernel
theorem dX3_copyFrom_55 : decode cX3_copyFrom 55 = .ok (.aload_n 1, 1) := by decide +kernel
theorem dX3_copyFrom_56 : decode cX3_copyFrom 56 = .ok (.getfield 15, 3) := by decide +kernel
theorem dX3_copyFrom_59 : decode cX3_copyFrom 59 = .ok (.iconst 0, 1) := by decide +kernel
theorem dX3_copyFrom_60 : decode cX3_copyFrom 60 = .ok (.aload_n 0, 1) := by decide +kernel
theorem dX3_copyFrom_61 : decode cX3_copyFrom 61 = .ok (.getfield 15, 3) := by decide +kernel
theorem dX3_copyFrom_64 : decode cX3_copyFrom 64 = .ok (.iconst 0, 1) := by decide +kernel
theorem dX3_copyFrom_65 : decode cX3_copyFrom 65 = .ok (.bipush 12, 2) := by decide +kernel
theorem dX3_copyFrom_67 : decode cX3_copyFrom 67 = .ok (.invokestatic 35, 3) := by decide +kernel
theorem dX3_copyFrom_70 : decode cX3_copyFrom 70 = .ok (.return_, 1) := by decide +kernel
theorem dX3_latest_0 : decode cX3_latest 0 = .ok (.iload_n 1, 1) := by decide +kernel
theorem dX3_latest_1 : decode cX3_latest 1 = .ok (.aload_n 0, 1) := by decide +kernel
theorem dX3_latest_2 : decode cX3_latest 2 = .ok (.getfield 26, 3) := by decide +kernel
theorem dX3_latest_5 : decode cX3_latest 5 = .ok (.if_icmp .ge 12, 3) := by decide +kernel
theorem dX3_latest_8 : decode cX3_latest 8 = .ok (.aload_n 0, 1) := by decide +kernel
theorem dX3_latest_9 : decode cX3_latest 9 = .ok (.getfield 15, 3) := by decide +kernel
theorem dX3_latest_12 : decode cX3_latest 12 = .ok (.iload_n 1, 1) := by decide +kernel
theorem dX3_latest_13 : decode cX3_latest 13 = .ok (.iaload, 1) := by decide +kernel
theorem dX3_latest_14 : decode cX3_latest 14 = .ok (.goto 4, 3) := by decide +kernel
theorem dX3_latest_17 : decode cX3_latest 17 = .ok (.iconst (-1), 1) := by decide +kernel
theorem dX3_latest_18 : decode cX3_latest 18 = .ok (.ireturn, 1) := by decide +kernel
theorem dX3_receive_0 : decode cX3_receive 0 = .ok (.aload_n 0, 1) := by decide +kernel
theorem dX3_receive_1 : decode cX3_receive 1 = .ok (.getfield 22, 3) := by decide +kernel
theorem dX3_receive_4 : decode cX3_receive 4 = .ok (.ifCond .eq 11, 3) := by decide +kernel
theorem dX3_receive_7 : decode cX3_receive 7 = .ok (.aload_n 0, 1) := by decide +kernel
theorem dX3_receive_8 : decode cX3_receive 8 = .ok (.iload_n 1, 1) := by decide +kernel
theorem dX3_receive_9 : decode cX3_receive 9 = .ok (.invokevirtual 41, 3) := by decide +kernel
theorem dX3_receive_12 : decode cX3_receive 12 = .ok (.goto 8, 3) := by decide +kernel
theorem dX3_receive_15 : decode cX3_receive 15 = .ok (.aload_n 0, 1) := by decide +kernel
theorem dX3_receive_16 : decode cX3_receive 16 = .ok (.iload_n 1, 1) := by decide +kernel
theorem dX3_receive_17 : decode cX3_receive 17 = .ok (.invokevirtual 45, 3) := by decide +kernel
theorem dX3_receive_20 : decode cX3_receive 20 = .ok (.return_, 1) := by decide +kernel
theorem dX3_arrive_0 : decode cX3_arrive 0 = .ok (.aload_n 0, 1) := by decide +kernel
theorem dX3_arrive_1 : decode cX3_arrive 1 = .ok (.getfield 32, 3) := by decide +kernel
theorem dX3_arrive_4 : decode cX3_arrive 4 = .ok (.istore_n 2, 1) := by decide +kernel
theorem dX3_arrive_5 : decode cX3_arrive 5 = .ok (.aload_n 0, 1) := by decide +kernel
theorem dX3_arrive_6 : decode cX3_arrive 6 = .ok (.iload_n 1, 1) := by decide +kernel
theorem dX3_arrive_7 : decode cX3_arrive 7 = .ok (.putfield 18, 3) := by decide +kernel
theorem dX3_arrive_10 : decode cX3_arrive 10 = .ok (.aload_n 0, 1) := by decide +kernel
theorem dX3_arrive_11 : decode cX3_arrive 11 = .ok (.iconst 1, 1) := by decide +kernel
theorem dX3_arrive_12 : decode cX3_arrive 12 = .ok (.putfield 22, 3) := by decide +kernel
theorem dX3_arrive_15 : decode cX3_arrive 15 = .ok (.iconst 0, 1) := by decide +kernel
theorem dX3_arrive_16 : decode cX3_arrive 16 = .ok (.istore_n 3, 1) := by decide +kernel
theorem dX3_arrive_17 : decode cX3_arrive 17 = .ok (.iload_n 3, 1) := by decide +kernel
theorem dX3_arrive_18 : decode cX3_arrive 18 = .ok (.iload_n 2, 1) := by decide +kernel
theorem dX3_arrive_19 : decode cX3_arrive 19 = .ok (.if_icmp .ge 19, 3) := by decide +kernel
theorem dX3_arrive_22 : decode cX3_arrive 22 = .ok (.aload_n 0, 1) := by decide +kernel
theorem dX3_arrive_23 : decode cX3_arrive 23 = .ok (.aload_n 0, 1) := by decide +kernel
theorem dX3_arrive_24 : decode cX3_arrive 24 = .ok (.getfield 9, 3) := by decide +kernel
theorem dX3_arrive_27 : decode cX3_arrive 27 = .ok (.iload_n 3, 1) := by decide +kernel
theorem dX3_arrive_28 : decode cX3_arrive 28 = .ok (.iaload, 1) := by decide +kernel
theorem dX3_arrive_29 : decode cX3_arrive 29 = .ok (.invokevirtual 41, 3) := by decide +kernel
theorem dX3_arrive_32 : decode cX3_arrive 32 = .ok (.iinc 3 1, 3) := by decide +kernel
theorem dX3_arrive_35 : decode cX3_arrive 35 = .ok (.goto (-18), 3) := by decide +kernel
theorem dX3_arrive_38 : decode cX3_arrive 38 = .ok (.aload_n 0, 1) := by decide +kernel
theorem dX3_arrive_39 : decode cX3_arrive 39 = .ok (.iconst 0, 1) := by decide +kernel
theorem dX3_arrive_40 : decode cX3_arrive 40 = .ok (.putfield 32, 3) := by decide +kernel
theorem dX3_arrive_43 : decode cX3_arrive 43 = .ok (.iload_n 2, 1) := by decide +kernel
theorem dX3_arrive_44 : decode cX3_arrive 44 = .ok (.ireturn, 1) := by decide +kernel
theorem dX3_enter_0 : decode cX3_enter 0 = .ok (.bipush 11, 2) := by decide +kernel
theorem dX3_enter_2 : decode cX3_enter 2 = .ok (.istore_n 2, 1) := by decide +kernel
theorem dX3_enter_3 : decode cX3_enter 3 = .ok (.iload_n 2, 1) := by decide +kernel
theorem dX3_enter_4 : decode cX3_enter 4 = .ok (.ifCond .le 23, 3) := by decide +kernel
theorem dX3_enter_7 : decode cX3_enter 7 = .ok (.aload_n 0, 1) := by decide +kernel
theorem dX3_enter_8 : decode cX3_enter 8 = .ok (.getfield 15, 3) := by decide +kernel
theorem dX3_enter_11 : decode cX3_enter 11 = .ok (.iload_n 2, 1) := by decide +kernel
theorem dX3_enter_12 : decode cX3_enter 12 = .ok (.aload_n 0, 1) := by decide +kernel
theorem dX3_enter_13 : decode cX3_enter 13 = .ok (.getfield 15, 3) := by decide +kernel
theorem dX3_enter_16 : decode cX3_enter 16 = .ok (.iload_n 2, 1) := by decide +kernel
theorem dX3_enter_17 : decode cX3_enter 17 = .ok (.iconst 1, 1) := by decide +kernel
theorem dX3_enter_18 : decode cX3_enter 18 = .ok (.isub, 1) := by decide +kernel
theorem dX3_enter_19 : decode cX3_enter 19 = .ok (.iaload, 1) := by decide +kernel
theorem dX3_enter_20 : decode cX3_enter 20 = .ok (.iastore, 1) := by decide +kernel
theorem dX3_enter_21 : decode cX3_enter 21 = .ok (.iinc 2 (-1), 3) := by decide +kernel
theorem dX3_enter_24 : decode cX3_enter 24 = .ok (.goto (-21), 3) := by decide +kernel
theorem dX3_enter_27 : decode cX3_enter 27 = .ok (.aload_n 0, 1) := by decide +kernel
theorem dX3_enter_28 : decode cX3_enter 28 = .ok (.getfield 15, 3) := by decide +kernel
theorem dX3_enter_31 : decode cX3_enter 31 = .ok (.iconst 0, 1) := by decide +kernel
theorem dX3_enter_32 : decode cX3_enter 32 = .ok (.iload_n 1, 1) := by decide +kernel
theorem dX3_enter_33 : decode cX3_enter 33 = .ok (.iastore, 1) := by decide +kernel
theorem dX3_enter_34 : decode cX3_enter 34 = .ok (.aload_n 0, 1) := by decide +kernel
theorem dX3_enter_35 : decode cX3_enter 35 = .ok (.dup, 1) := by decide +kernel
theorem dX3_enter_36 : decode cX3_enter 36 = .ok (.getfield 26, 3) := by decide +kernel
theorem dX3_enter_39 : decode cX3_enter 39 = .ok (.iconst 1, 1) := by decide +kernel
theorem dX3_enter_40 : decode cX3_enter 40 = .ok (.iadd, 1) := by decide +kernel
theorem dX3_enter_41 : decode cX3_enter 41 = .ok (.putfield 26, 3) := by decide +kernel
theorem dX3_enter_44 : decode cX3_enter 44 = .ok (.return_, 1) := by decide +kernel
theorem dX3_store_0 : decode cX3_store 0 = .ok (.aload_n 0, 1) := by decide +kernel
theorem dX3_store_1 : decode cX3_store 1 = .ok (.getfield 32, 3) := by decide +kernel
theorem dX3_store_4 : decode cX3_store 4 = .ok (.bipush 8, 2) := by decide +kernel
theorem dX3_store_6 : decode cX3_store 6 = .ok (.if_icmp .lt 7, 3) := by decide +kernel
theorem dX3_store_9 : decode cX3_store 9 = .ok (.aload_n 0, 1) := by decide +kernel
theorem dX3_store_10 : decode cX3_store 10 = .ok (.invokevirtual 48, 3) := by decide +kernel
theorem dX3_store_13 : decode cX3_store 13 = .ok (.aload_n 0, 1) := by decide +kernel
theorem dX3_store_14 : decode cX3_store 14 = .ok (.getfield 9, 3) := by decide +kernel
theorem dX3_store_17 : decode cX3_store 17 = .ok (.aload_n 0, 1) := by decide +kernel
theorem dX3_store_18 : decode cX3_store 18 = .ok (.getfield 32, 3) := by decide +kernel
theorem dX3_store_21 : decode cX3_store 21 = .ok (.iload_n 1, 1) := by decide +kernel
theorem dX3_store_22 : decode cX3_store 22 = .ok (.iastore, 1) := by decide +kernel
theorem dX3_store_23 : decode cX3_store 23 = .ok (.aload_n 0, 1) := by decide +kernel
theorem dX3_store_24 : decode cX3_store 24 = .ok (.dup, 1) := by decide +kernel
theorem dX3_store_25 : decode cX3_store 25 = .ok (.getfield 32, 3) := by decide +kernel
theorem dX3_store_28 : decode cX3_store 28 = .ok (.iconst 1, 1) := by decide +kernel
theorem dX3_store_29 : decode cX3_store 29 = .ok (.iadd, 1) := by decide +kernel
theorem dX3_store_30 : decode cX3_store 30 = .ok (.putfield 32, 3) := by decide +kernel
theorem dX3_store_33 : decode cX3_store 33 = .ok (.return_, 1) := by decide +kernel
theorem dX3_loseFirst_0 : decode cX3_loseFirst 0 = .ok (.iconst 0, 1) := by decide +kernel
theorem dX3_loseFirst_1 : decode cX3_loseFirst 1 = .ok (.istore_n 1, 1) := by decide +kernel
theorem dX3_loseFirst_2 : decode cX3_loseFirst 2 = .ok (.iload_n 1, 1) := by decide +kernel
theorem dX3_loseFirst_3 : decode cX3_loseFirst 3 = .ok (.bipush 7, 2) := by decide +kernel
theorem dX3_loseFirst_5 : decode cX3_loseFirst 5 = .ok (.if_icmp .ge 23, 3) := by decide +kernel
theorem dX3_loseFirst_8 : decode cX3_loseFirst 8 = .ok (.aload_n 0, 1) := by decide +kernel
theorem dX3_loseFirst_9 : decode cX3_loseFirst 9 = .ok (.getfield 9, 3) := by decide +kernel
theorem dX3_loseFirst_12 : decode cX3_loseFirst 12 = .ok (.iload_n 1, 1) := by decide +kernel
theorem dX3_loseFirst_13 : decode cX3_loseFirst 13 = .ok (.aload_n 0, 1) := by decide +kernel
theorem dX3_loseFirst_14 : decode cX3_loseFirst 14 = .ok (.getfield 9, 3) := by decide +kernel
theorem dX3_loseFirst_17 : decode cX3_loseFirst 17 = .ok (.iload_n 1, 1) := by decide +kernel
theorem dX3_loseFirst_18 : decode cX3_loseFirst 18 = .ok (.iconst 1, 1) := by decide +kernel
theorem dX3_loseFirst_19 : decode cX3_loseFirst 19 = .ok (.iadd, 1) := by decide +kernel
theorem dX3_loseFirst_20 : decode cX3_loseFirst 20 = .ok (.iaload, 1) := by decide +kernel
theorem dX3_loseFirst_21 : decode cX3_loseFirst 21 = .ok (.iastore, 1) := by decide +kernel
theorem dX3_loseFirst_22 : decode cX3_loseFirst 22 = .ok (.iinc 1 1, 3) := by decide +kernel
theorem dX3_loseFirst_25 : decode cX3_loseFirst 25 = .ok (.goto (-23), 3) := by decide +kernel
theorem dX3_loseFirst_28 : decode cX3_loseFirst 28 = .ok (.aload_n 0, 1) := by decide +kernel
theorem dX3_loseFirst_29 : decode cX3_loseFirst 29 = .ok (.bipush 7, 2) := by decide +kernel
theorem dX3_loseFirst_31 : decode cX3_loseFirst 31 = .ok (.putfield 32, 3) := by decide +kernel
theorem dX3_loseFirst_34 : decode cX3_loseFirst 34 = .ok (.aload_n 0, 1) := by decide +kernel
theorem dX3_loseFirst_35 : decode cX3_loseFirst 35 = .ok (.dup, 1) := by decide +kernel
theorem dX3_loseFirst_36 : decode cX3_loseFirst 36 = .ok (.getfield 29, 3) := by decide +kernel
theorem dX3_loseFirst_39 : decode cX3_loseFirst 39 = .ok (.iconst 1, 1) := by decide +kernel
theorem dX3_loseFirst_40 : decode cX3_loseFirst 40 = .ok (.iadd, 1) := by decide +kernel
theorem dX3_loseFirst_41 : decode cX3_loseFirst 41 = .ok (.putfield 29, 3) := by decide +kernel
theorem dX3_loseFirst_44 : decode cX3_loseFirst 44 = .ok (.return_, 1) := by decide +kernel
theorem dX4_init_0 : decode cX4_init 0 = .ok (.aload_n 0, 1) := by decide +kernel
theorem dX4_init_1 : decode cX4_init 1 = .ok (.invokespecial 1, 3) := by decide +kernel
theorem dX4_init_4 : decode cX4_init 4 = .ok (.return_, 1) := by decide +kernel
theorem dX4_draw_0 : decode cX4_draw 0 = .ok (.aload_n 0, 1) := by decide +kernel
theorem dX4_draw_1 : decode cX4_draw 1 = .ok (.aload_n 0, 1) := by decide +kernel
theorem dX4_draw_2 : decode cX4_draw 2 = .ok (.getfield 7, 3) := by decide +kernel
theorem dX4_draw_5 : decode cX4_draw 5 = .ok (.ldc 13, 2) := by decide +kernel
theorem dX4_draw_7 : decode cX4_draw 7 = .ok (.imul, 1) := by decide +kernel
theorem dX4_draw_8 : decode cX4_draw 8 = .ok (.sipush 12345, 3) := by decide +kernel
theorem dX4_draw_11 : decode cX4_draw 11 = .ok (.iadd, 1) := by decide +kernel
theorem dX4_draw_12 : decode cX4_draw 12 = .ok (.ldc 16, 2) := by decide +kernel
theorem dX4_draw_14 : decode cX4_draw 14 = .ok (.iand, 1) := by decide +kernel
theorem dX4_draw_15 : decode cX4_draw 15 = .ok (.putfield 7, 3) := by decide +kernel
theorem dX4_draw_18 : decode cX4_draw 18 = .ok (.iload_n 1, 1) := by decide +kernel
theorem dX4_draw_19 : decode cX4_draw 19 = .ok (.ifCond .le 15, 3) := by decide +kernel
theorem dX4_draw_22 : decode cX4_draw 22 = .ok (.aload_n 0, 1) := by decide +kernel
theorem dX4_draw_23 : decode cX4_draw 23 = .ok (.getfield 7, 3) := by decide +kernel
theorem dX4_draw_26 : decode cX4_draw 26 = .ok (.ldc 17, 2) := by decide +kernel
theorem dX4_draw_28 : decode cX4_draw 28 = .ok (.idiv, 1) := by decide +kernel
theorem dX4_draw_29 : decode cX4_draw 29 = .ok (.iload_n 1, 1) := by decide +kernel
theorem dX4_draw_30 : decode cX4_draw 30 = .ok (.irem, 1) := by decide +kernel
theorem dX4_draw_31 : decode cX4_draw 31 = .ok (.goto 4, 3) := by decide +kernel
theorem dX4_draw_34 : decode cX4_draw 34 = .ok (.iconst 0, 1) := by decide +kernel
theorem dX4_draw_35 : decode cX4_draw 35 = .ok (.ireturn, 1) := by decide +kernel
theorem dX5_init_0 : decode cX5_init 0 = .ok (.aload_n 0, 1) := by decide +kernel
theorem dX5_init_1 : decode cX5_init 1 = .ok (.invokespecial 1, 3) := by decide +kernel
theorem dX5_init_4 : decode cX5_init 4 = .ok (.aload_n 0, 1) := by decide +kernel
theorem dX5_init_5 : decode cX5_init 5 = .ok (.new 7, 3) := by decide +kernel
theorem dX5_init_8 : decode cX5_init 8 = .ok (.dup, 1) := by decide +kernel
theorem dX5_init_9 : decode cX5_init 9 = .ok (.invokespecial 9, 3) := by decide +kernel
theorem dX5_init_12 : decode cX5_init 12 = .ok (.putfield 10, 3) := by decide +kernel
theorem dX5_init_15 : decode cX5_init 15 = .ok (.return_, 1) := by decide +kernel
theorem dX5_take_0 : decode cX5_take 0 = .ok (.aload_n 0, 1) := by decide +kernel
theorem dX5_take_1 : decode cX5_take 1 = .ok (.getfield 10, 3) := by decide +kernel
theorem dX5_take_4 : decode cX5_take 4 = .ok (.aload_n 1, 1) := by decide +kernel
theorem dX5_take_5 : decode cX5_take 5 = .ok (.invokevirtual 16, 3) := by decide +kernel
theorem dX5_take_8 : decode cX5_take 8 = .ok (.aload_n 0, 1) := by decide +kernel
theorem dX5_take_9 : decode cX5_take 9 = .ok (.aload_n 2, 1) := by decide +kernel
theorem dX5_take_10 : decode cX5_take 10 = .ok (.getfield 20, 3) := by decide +kernel
theorem dX5_take_13 : decode cX5_take 13 = .ok (.putfield 26, 3) := by decide +kernel
theorem dX5_take_16 : decode cX5_take 16 = .ok (.aload_n 0, 1) := by decide +kernel
theorem dX5_take_17 : decode cX5_take 17 = .ok (.iconst 1, 1) := by decide +kernel
theorem dX5_take_18 : decode cX5_take 18 = .ok (.putfield 29, 3) := by decide +kernel
theorem dX5_take_21 : decode cX5_take 21 = .ok (.return_, 1) := by decide +kernel
theorem dX5_giveBack_0 : decode cX5_giveBack 0 = .ok (.aload_n 1, 1) := by decide +kernel
theorem dX5_giveBack_1 : decode cX5_giveBack 1 = .ok (.aload_n 0, 1) := by decide +kernel
theorem dX5_giveBack_2 : decode cX5_giveBack 2 = .ok (.getfield 10, 3) := by decide +kernel
theorem dX5_giveBack_5 : decode cX5_giveBack 5 = .ok (.invokevirtual 16, 3) := by decide +kernel
theorem dX5_giveBack_8 : decode cX5_giveBack 8 = .ok (.aload_n 2, 1) := by decide +kernel
theorem dX5_giveBack_9 : decode cX5_giveBack 9 = .ok (.aload_n 0, 1) := by decide +kernel
theorem dX5_giveBack_10 : decode cX5_giveBack 10 = .ok (.getfield 26, 3) := by decide +kernel
theorem dX5_giveBack_13 : decode cX5_giveBack 13 = .ok (.putfield 20, 3) := by decide +kernel
theorem dX5_giveBack_16 : decode cX5_giveBack 16 = .ok (.return_, 1) := by decide +kernel
theorem dX6_init_0 : decode cX6_init 0 = .ok (.aload_n 0, 1) := by decide +kernel
theorem dX6_init_1 : decode cX6_init 1 = .ok (.invokespecial 3, 3) := by decide +kernel
theorem dX6_init_4 : decode cX6_init 4 = .ok (.aload_n 0, 1) := by decide +kernel
theorem dX6_init_5 : decode cX6_init 5 = .ok (.bipush 7, 2) := by decide +kernel
theorem dX6_init_7 : decode cX6_init 7 = .ok (.newarray .int, 2) := by decide +kernel
theorem dX6_init_9 : decode cX6_init 9 = .ok (.putfield 9, 3) := by decide +kernel
theorem dX6_init_12 : decode cX6_init 12 = .ok (.return_, 1) := by decide +kernel
theorem dX6_travel_0 : decode cX6_travel 0 = .ok (.aload_n 1, 1) := by decide +kernel
theorem dX6_travel_1 : decode cX6_travel 1 = .ok (.iload 4, 2) := by decide +kernel
theorem dX6_travel_3 : decode cX6_travel 3 = .ok (.invokevirtual 15, 3) := by decide +kernel
theorem dX6_travel_6 : decode cX6_travel 6 = .ok (.istore 5, 2) := by decide +kernel
theorem dX6_travel_8 : decode cX6_travel 8 = .ok (.iconst 1, 1) := by decide +kernel
theorem dX6_travel_9 : decode cX6_travel 9 = .ok (.iload_n 3, 1) := by decide +kernel
theorem dX6_travel_10 : decode cX6_travel 10 = .ok (.ishl, 1) := by decide +kernel
theorem dX6_travel_11 : decode cX6_travel 11 = .ok (.istore 6, 2) := by decide +kernel
theorem dX6_travel_13 : decode cX6_travel 13 = .ok (.aload_n 0, 1) := by decide +kernel
theorem dX6_travel_14 : decode cX6_travel 14 = .ok (.iconst 1, 1) := by decide +kernel
theorem dX6_travel_15 : decode cX6_travel 15 = .ok (.iload_n 3, 1) := by decide +kernel
theorem dX6_travel_16 : decode cX6_travel 16 = .ok (.ishl, 1) := by decide +kernel
theorem dX6_travel_17 : decode cX6_travel 17 = .ok (.putfield 21, 3) := by decide +kernel
theorem dX6_travel_20 : decode cX6_travel 20 = .ok (.aload_n 0, 1) := by decide +kernel
theorem dX6_travel_21 : decode cX6_travel 21 = .ok (.iconst 0, 1) := by decide +kernel
theorem dX6_travel_22 : decode cX6_travel 22 = .ok (.putfield 25, 3) := by decide +kernel
theorem dX6_travel_25 : decode cX6_travel 25 = .ok (.aload_n 0, 1) := by decide +kernel
theorem dX6_travel_26 : decode cX6_travel 26 = .ok (.iconst 0, 1) := by decide +kernel
theorem dX6_travel_27 : decode cX6_travel 27 = .ok (.putfield 28, 3) := by decide +kernel
theorem dX6_travel_30 : decode cX6_travel 30 = .ok (.aload_n 0, 1) := by decide +kernel
theorem dX6_travel_31 : decode cX6_travel 31 = .ok (.getfield 9, 3) := by decide +kernel
theorem dX6_travel_34 : decode cX6_travel 34 = .ok (.iconst 0, 1) := by decide +kernel
theorem dX6_travel_35 : decode cX6_travel 35 = .ok (.iload_n 3, 1) := by decide +kernel
theorem dX6_travel_36 : decode cX6_travel 36 = .ok (.iastore, 1) := by decide +kernel
theorem dX6_travel_37 : decode cX6_travel 37 = .ok (.iconst 0, 1) := by decide +kernel
theorem dX6_travel_38 : decode cX6_travel 38 = .ok (.istore 7, 2) := by decide +kernel
theorem dX6_travel_40 : decode cX6_travel 40 = .ok (.iload 7, 2) := by decide +kernel
theorem dX6_travel_42 : decode cX6_travel 42 = .ok (.aload_n 0, 1) := by decide +kernel
theorem dX6_travel_43 : decode cX6_travel 43 = .ok (.getfield 28, 3) := by decide +kernel
theorem dX6_travel_46 : decode cX6_travel 46 = .ok (.if_icmp .gt 74, 3) := by decide +kernel
theorem dX6_travel_49 : decode cX6_travel 49 = .ok (.iload 7, 2) := by decide +kernel
theorem dX6_travel_51 : decode cX6_travel 51 = .ok (.bipush 7, 2) := by decide +kernel
theorem dX6_travel_53 : decode cX6_travel 53 = .ok (.if_icmp .ge 67, 3) := by decide +kernel
theorem dX6_travel_56 : decode cX6_travel 56 = .ok (.aload_n 0, 1) := by decide +kernel
theorem dX6_travel_57 : decode cX6_travel 57 = .ok (.getfield 9, 3) := by decide +kernel
theorem dX6_travel_60 : decode cX6_travel 60 = .ok (.iload 7, 2) := by decide +kernel
theorem dX6_travel_62 : decode cX6_travel 62 = .ok (.iaload, 1) := by decide +kernel
theorem dX6_travel_63 : decode cX6_travel 63 = .ok (.istore 8, 2) := by decide +kernel
theorem dX6_travel_65 : decode cX6_travel 65 = .ok (.iload 5, 2) := by decide +kernel
theorem dX6_travel_67 : decode cX6_travel 67 = .ok (.aload_n 1, 1) := by decide +kernel
theorem dX6_travel_68 : decode cX6_travel 68 = .ok (.iload 8, 2) := by decide +kernel
theorem dX6_travel_70 : decode cX6_travel 70 = .ok (.invokevirtual 31, 3) := by decide +kernel
theorem dX6_travel_73 : decode cX6_travel 73 = .ok (.iand, 1) := by decide +kernel
theorem dX6_travel_74 : decode cX6_travel 74 = .ok (.istore 9, 2) := by decide +kernel
theorem dX6_travel_76 : decode cX6_travel 76 = .ok (.aload_n 0, 1) := by decide +kernel
theorem dX6_travel_77 : decode cX6_travel 77 = .ok (.dup, 1) := by decide +kernel
theorem dX6_travel_78 : decode cX6_travel 78 = .ok (.getfield 25, 3) := by decide +kernel
theorem dX6_travel_81 : decode cX6_travel 81 = .ok (.iload 9, 2) := by decide +kernel
theorem dX6_travel_83 : decode cX6_travel 83 = .ok (.ior, 1) := by decide +kernel
theorem dX6_travel_84 : decode cX6_travel 84 = .ok (.putfield 25, 3) := by decide +kernel
theorem dX6_travel_87 : decode cX6_travel 87 = .ok (.aload_n 0, 1) := by decide +kernel
theorem dX6_travel_88 : decode cX6_travel 88 = .ok (.aload_n 1, 1) := by decide +kernel
theorem dX6_travel_89 : decode cX6_travel 89 = .ok (.aload_n 2, 1) := by decide +kernel
theorem dX6_travel_90 : decode cX6_travel 90 = .ok (.iload 8, 2) := by decide +kernel
theorem dX6_travel_92 : decode cX6_travel 92 = .ok (.iload 4, 2) := by decide +kernel
theorem dX6_travel_94 : decode cX6_travel 94 = .ok (.invokevirtual 34, 3) := by decide +kernel
theorem dX6_travel_97 : decode cX6_travel 97 = .ok (.ifCond .ne 8, 3) := by decide +kernel
theorem dX6_travel_100 : decode cX6_travel 100 = .ok (.iload 9, 2) := by decide +kernel
theorem dX6_travel_102 : decode cX6_travel 102 = .ok (.ifCond .eq 12, 3) := by decide +kernel
theorem dX6_travel_105 : decode cX6_travel 105 = .ok (.iload 6, 2) := by decide +kernel
theorem dX6_travel_107 : decode cX6_travel 107 = .ok (.iconst 1, 1) := by decide +kernel
theorem dX6_travel_108 : decode cX6_travel 108 = .ok (.iload 8, 2) := by decide +kernel
theorem dX6_travel_110 : decode cX6_travel 110 = .ok (.ishl, 1) := by decide +kernel
theorem dX6_travel_111 : decode cX6_travel 111 = .ok (.ior, 1) := by decide +kernel
theorem dX6_travel_112 : decode cX6_travel 112 = .ok (.istore 6, 2) := by decide +kernel
theorem dX6_travel_114 : decode cX6_travel 114 = .ok (.iinc 7 1, 3) := by decide +kernel
theorem dX6_travel_117 : decode cX6_travel 117 = .ok (.goto (-77), 3) := by decide +kernel
theorem dX6_travel_120 : decode cX6_travel 120 = .ok (.aload_n 0, 1) := by decide +kernel
theorem dX6_travel_121 : decode cX6_travel 121 = .ok (.aload_n 0, 1) := by decide +kernel
theorem dX6_travel_122 : decode cX6_travel 122 = .ok (.getfield 21, 3) := by decide +kernel
theorem dX6_travel_125 : decode cX6_travel 125 = .ok (.iload 6, 2) := by decide +kernel
theorem dX6_travel_127 : decode cX6_travel 127 = .ok (.iconst (-1), 1) := by decide +kernel
theorem dX6_travel_128 : decode cX6_travel 128 = .ok (.ixor, 1) := by decide +kernel
theorem dX6_travel_129 : decode cX6_travel 129 = .ok (.iand, 1) := by decide +kernel
theorem dX6_travel_130 : decode cX6_travel 130 = .ok (.putfield 38, 3) := by decide +kernel
theorem dX6_travel_133 : decode cX6_travel 133 = .ok (.return_, 1) := by decide +kernel
theorem dX6_goOn_0 : decode cX6_goOn 0 = .ok (.aload_n 0, 1) := by decide +kernel
theorem dX6_goOn_1 : decode cX6_goOn 1 = .ok (.getfield 28, 3) := by decide +kernel
theorem dX6_goOn_4 : decode cX6_goOn 4 = .ok (.istore 5, 2) := by decide +kernel
theorem dX6_goOn_6 : decode cX6_goOn 6 = .ok (.iconst 0, 1) := by decide +kernel
theorem dX6_goOn_7 : decode cX6_goOn 7 = .ok (.istore 6, 2) := by decide +kernel
theorem dX6_goOn_9 : decode cX6_goOn 9 = .ok (.iload 6, 2) := by decide +kernel
theorem dX6_goOn_11 : decode cX6_goOn 11 = .ok (.aload_n 1, 1) := by decide +kernel
theorem dX6_goOn_12 : decode cX6_goOn 12 = .ok (.getfield 41, 3) := by decide +kernel
theorem dX6_goOn_15 : decode cX6_goOn 15 = .ok (.if_icmp .ge 102, 3) := by decide +kernel
theorem dX6_goOn_18 : decode cX6_goOn 18 = .ok (.aload_n 0, 1) := by decide +kernel
theorem dX6_goOn_19 : decode cX6_goOn 19 = .ok (.getfield 28, 3) := by decide +kernel
theorem dX6_goOn_22 : decode cX6_goOn 22 = .ok (.bipush 6, 2) := by decide +kernel
theorem dX6_goOn_24 : decode cX6_goOn 24 = .ok (.if_icmp .ge 93, 3) := by decide +kernel
theorem dX6_goOn_27 : decode cX6_goOn 27 = .ok (.aload_n 0, 1) := by decide +kernel
theorem dX6_goOn_28 : decode cX6_goOn 28 = .ok (.getfield 21, 3) := by decide +kernel
theorem dX6_goOn_31 : decode cX6_goOn 31 = .ok (.iload 6, 2) := by decide +kernel
theorem dX6_goOn_33 : decode cX6_goOn 33 = .ok (.invokestatic 44, 3) := by decide +kernel
theorem dX6_goOn_36 : decode cX6_goOn 36 = .ok (.ifCond .ne 7, 3) := by decide +kernel
theorem dX6_goOn_39 : decode cX6_goOn 39 = .ok (.iconst 1, 1) := by decide +kernel
theorem dX6_goOn_40 : decode cX6_goOn 40 = .ok (.goto 4, 3) := by decide +kernel
theorem dX6_goOn_43 : decode cX6_goOn 43 = .ok (.iconst 0, 1) := by decide +kernel
theorem dX6_goOn_44 : decode cX6_goOn 44 = .ok (.istore 7, 2) := by decide +kernel
theorem dX6_goOn_46 : decode cX6_goOn 46 = .ok (.iload 7, 2) := by decide +kernel
theorem dX6_goOn_48 : decode cX6_goOn 48 = .ok (.ifCond .eq 63, 3) := by decide +kernel
theorem dX6_goOn_51 : decode cX6_goOn 51 = .ok (.aload_n 1, 1) := by decide +kernel
theorem dX6_goOn_52 : decode cX6_goOn 52 = .ok (.iload 6, 2) := by decide +kernel
theorem dX6_goOn_54 : decode cX6_goOn 54 = .ok (.iload_n 3, 1) := by decide +kernel
theorem dX6_goOn_55 : decode cX6_goOn 55 = .ok (.invokevirtual 48, 3) := by decide +kernel
theorem dX6_goOn_58 : decode cX6_goOn 58 = .ok (.ifCond .eq 53, 3) := by decide +kernel
theorem dX6_goOn_61 : decode cX6_goOn 61 = .ok (.aload_n 2, 1) := by decide +kernel
theorem dX6_goOn_62 : decode cX6_goOn 62 = .ok (.aload_n 1, 1) := by decide +kernel
theorem dX6_goOn_63 : decode cX6_goOn 63 = .ok (.iload 6, 2) := by decide +kernel
theorem dX6_goOn_65 : decode cX6_goOn 65 = .ok (.iload_n 3, 1) := by decide +kernel
theorem dX6_goOn_66 : decode cX6_goOn 66 = .ok (.invokevirtual 51, 3) := by decide +kernel
theorem dX6_goOn_69 : decode cX6_goOn 69 = .ok (.iload 4, 2) := by decide +kernel
theorem dX6_goOn_71 : decode cX6_goOn 71 = .ok (.invokevirtual 57, 3) := by decide +kernel
theorem dX6_goOn_74 : decode cX6_goOn 74 = .ok (.ifCond .eq 37, 3) := by decide +kernel
theorem dX6_goOn_77 : decode cX6_goOn 77 = .ok (.aload_n 0, 1) := by decide +kernel
theorem dX6_goOn_78 : decode cX6_goOn 78 = .ok (.dup, 1) := by decide +kernel
theorem dX6_goOn_79 : decode cX6_goOn 79 = .ok (.getfield 21, 3) := by decide +kernel
theorem dX6_goOn_82 : decode cX6_goOn 82 = .ok (.iconst 1, 1) := by decide +kernel
theorem dX6_goOn_83 : decode cX6_goOn 83 = .ok (.iload 6, 2) := by decide +kernel
theorem dX6_goOn_85 : decode cX6_goOn 85 = .ok (.ishl, 1) := by decide +kernel
theorem dX6_goOn_86 : decode cX6_goOn 86 = .ok (.ior, 1) := by decide +kernel
theorem dX6_goOn_87 : decode cX6_goOn 87 = .ok (.putfield 21, 3) := by decide +kernel
theorem dX6_goOn_90 : decode cX6_goOn 90 = .ok (.aload_n 0, 1) := by decide +kernel
theorem dX6_goOn_91 : decode cX6_goOn 91 = .ok (.dup, 1) := by decide +kernel
theorem dX6_goOn_92 : decode cX6_goOn 92 = .ok (.getfield 28, 3) := by decide +kernel
theorem dX6_goOn_95 : decode cX6_goOn 95 = .ok (.iconst 1, 1) := by decide +kernel
theorem dX6_goOn_96 : decode cX6_goOn 96 = .ok (.iadd, 1) := by decide +kernel
theorem dX6_goOn_97 : decode cX6_goOn 97 = .ok (.putfield 28, 3) := by decide +kernel
theorem dX6_goOn_100 : decode cX6_goOn 100 = .ok (.aload_n 0, 1) := by decide +kernel
theorem dX6_goOn_101 : decode cX6_goOn 101 = .ok (.getfield 9, 3) := by decide +kernel
theorem dX6_goOn_104 : decode cX6_goOn 104 = .ok (.aload_n 0, 1) := by decide +kernel
theorem dX6_goOn_105 : decode cX6_goOn 105 = .ok (.getfield 28, 3) := by decide +kernel
theorem dX6_goOn_108 : decode cX6_goOn 108 = .ok (.iload 6, 2) := by decide +kernel
theorem dX6_goOn_110 : decode cX6_goOn 110 = .ok (.iastore, 1) := by decide +kernel
theorem dX6_goOn_111 : decode cX6_goOn 111 = .ok (.iinc 6 1, 3) := by decide +kernel
theorem dX6_goOn_114 : decode cX6_goOn 114 = .ok (.goto (-105), 3) := by decide +kernel
theorem dX6_goOn_117 : decode cX6_goOn 117 = .ok (.aload_n 0, 1) := by decide +kernel
theorem dX6_goOn_118 : decode cX6_goOn 118 = .ok (.getfield 28, 3) := by decide +kernel
theorem dX6_goOn_121 : decode cX6_goOn 121 = .ok (.iload 5, 2) := by decide +kernel
theorem dX6_goOn_123 : decode cX6_goOn 123 = .ok (.if_icmp .le 7, 3) := by decide +kernel
theorem dX6_goOn_126 : decode cX6_goOn 126 = .ok (.iconst 1, 1) := by decide +kernel
theorem dX6_goOn_127 : decode cX6_goOn 127 = .ok (.goto 4, 3) := by decide +kernel
theorem dX6_goOn_130 : decode cX6_goOn 130 = .ok (.iconst 0, 1) := by decide +kernel
theorem dX6_goOn_131 : decode cX6_goOn 131 = .ok (.ireturn, 1) := by decide +kernel
theorem dX7_init_0 : decode cX7_init 0 = .ok (.aload_n 0, 1) := by decide +kernel
theorem dX7_init_1 : decode cX7_init 1 = .ok (.invokespecial 3, 3) := by decide +kernel
theorem dX7_init_4 : decode cX7_init 4 = .ok (.aload_n 0, 1) := by decide +kernel
theorem dX7_init_5 : decode cX7_init 5 = .ok (.bipush 16, 2) := by decide +kernel
theorem dX7_init_7 : decode cX7_init 7 = .ok (.anewarray 9, 3) := by decide +kernel
theorem dX7_init_10 : decode cX7_init 10 = .ok (.putfield 11, 3) := by decide +kernel
theorem dX7_init_13 : decode cX7_init 13 = .ok (.iconst 0, 1) := by decide +kernel
theorem dX7_init_14 : decode cX7_init 14 = .ok (.istore_n 1, 1) := by decide +kernel
theorem dX7_init_15 : decode cX7_init 15 = .ok (.iload_n 1, 1) := by decide +kernel
theorem dX7_init_16 : decode cX7_init 16 = .ok (.bipush 16, 2) := by decide +kernel
theorem dX7_init_18 : decode cX7_init 18 = .ok (.if_icmp .ge 22, 3) := by decide +kernel
theorem dX7_init_21 : decode cX7_init 21 = .ok (.aload_n 0, 1) := by decide +kernel
theorem dX7_init_22 : decode cX7_init 22 = .ok (.getfield 11, 3) := by decide +kernel
theorem dX7_init_25 : decode cX7_init 25 = .ok (.iload_n 1, 1) := by decide +kernel
theorem dX7_init_26 : decode cX7_init 26 = .ok (.new 9, 3) := by decide +kernel
theorem dX7_init_29 : decode cX7_init 29 = .ok (.dup, 1) := by decide +kernel
theorem dX7_init_30 : decode cX7_init 30 = .ok (.invokespecial 17, 3) := by decide +kernel
theorem dX7_init_33 : decode cX7_init 33 = .ok (.aastore, 1) := by decide +kernel
theorem dX7_init_34 : decode cX7_init 34 = .ok (.iinc 1 1, 3) := by decide +kernel
theorem dX7_init_37 : decode cX7_init 37 = .ok (.goto (-22), 3) := by decide +kernel
theorem dX7_init_40 : decode cX7_init 40 = .ok (.return_, 1) := by decide +kernel
theorem dX7_remember_0 : decode cX7_remember 0 = .ok (.aload_n 0, 1) := by decide +kernel
theorem dX7_remember_1 : decode cX7_remember 1 = .ok (.getfield 18, 3) := by decide +kernel
theorem dX7_remember_4 : decode cX7_remember 4 = .ok (.bipush 16, 2) := by decide +kernel
theorem dX7_remember_6 : decode cX7_remember 6 = .ok (.if_icmp .ne 26, 3) := by decide +kernel
theorem dX7_remember_9 : decode cX7_remember 9 = .ok (.aload_n 0, 1) := by decide +kernel
theorem dX7_remember_10 : decode cX7_remember 10 = .ok (.aload_n 0, 1) := by decide +kernel
theorem dX7_remember_11 : decode cX7_remember 11 = .ok (.getfield 22, 3) := by decide +kernel
theorem dX7_remember_14 : decode cX7_remember 14 = .ok (.iconst 1, 1) := by decide +kernel
theorem dX7_remember_15 : decode cX7_remember 15 = .ok (.iadd, 1) := by decide +kernel
theorem dX7_remember_16 : decode cX7_remember 16 = .ok (.bipush 16, 2) := by decide +kernel
theorem dX7_remember_18 : decode cX7_remember 18 = .ok (.irem, 1) := by decide +kernel
theorem dX7_remember_19 : decode cX7_remember 19 = .ok (.putfield 22, 3) := by decide +kernel
theorem dX7_remember_22 : decode cX7_remember 22 = .ok (.aload_n 0, 1) := by decide +kernel
theorem dX7_remember_23 : decode cX7_remember 23 = .ok (.dup, 1) := by decide +kernel
theorem dX7_remember_24 : decode cX7_remember 24 = .ok (.getfield 18, 3) := by decide +kernel
theorem dX7_remember_27 : decode cX7_remember 27 = .ok (.iconst 1, 1) := by decide +kernel
theorem dX7_remember_28 : decode cX7_remember 28 = .ok (.isub, 1) := by decide +kernel
theorem dX7_remember_29 : decode cX7_remember 29 = .ok (.putfield 18, 3) := by decide +kernel
theorem dX7_remember_32 : decode cX7_remember 32 = .ok (.aload_n 0, 1) := by decide +kernel
theorem dX7_remember_33 : decode cX7_remember 33 = .ok (.getfield 11, 3) := by decide +kernel
theorem dX7_remember_36 : decode cX7_remember 36 = .ok (.aload_n 0, 1) := by decide +kernel
theorem dX7_remember_37 : decode cX7_remember 37 = .ok (.getfield 22, 3) := by decide +kernel
theorem dX7_remember_40 : decode cX7_remember 40 = .ok (.aload_n 0, 1) := by decide +kernel
theorem dX7_remember_41 : decode cX7_remember 41 = .ok (.getfield 18, 3) := by decide +kernel
theorem dX7_remember_44 : decode cX7_remember 44 = .ok (.iadd, 1) := by decide +kernel
theorem dX7_remember_45 : decode cX7_remember 45 = .ok (.bipush 16, 2) := by decide +kernel
theorem dX7_remember_47 : decode cX7_remember 47 = .ok (.irem, 1) := by decide +kernel
theorem dX7_remember_48 : decode cX7_remember 48 = .ok (.aaload, 1) := by decide +kernel
theorem dX7_remember_49 : decode cX7_remember 49 = .ok (.aload_n 1, 1) := by decide +kernel
theorem dX7_remember_50 : decode cX7_remember 50 = .ok (.invokevirtual 25, 3) := by decide +kernel
theorem dX7_remember_53 : decode cX7_remember 53 = .ok (.aload_n 0, 1) := by decide +kernel
theorem dX7_remember_54 : decode cX7_remember 54 = .ok (.dup, 1) := by decide +kernel
theorem dX7_remember_55 : decode cX7_remember 55 = .ok (.getfield 18, 3) := by decide +kernel
theorem dX7_remember_58 : decode cX7_remember 58 = .ok (.iconst 1, 1) := by decide +kernel
theorem dX7_remember_59 : decode cX7_remember 59 = .ok (.iadd, 1) := by decide +kernel
theorem dX7_remember_60 : decode cX7_remember 60 = .ok (.putfield 18, 3) := by decide +kernel
theorem dX7_remember_63 : decode cX7_remember 63 = .ok (.return_, 1) := by decide +kernel
theorem dX7_restore_0 : decode cX7_restore 0 = .ok (.aload_n 0, 1) := by decide +kernel
theorem dX7_restore_1 : decode cX7_restore 1 = .ok (.dup, 1) := by decide +kernel
theorem dX7_restore_2 : decode cX7_restore 2 = .ok (.getfield 18, 3) := by decide +kernel
theorem dX7_restore_5 : decode cX7_restore 5 = .ok (.iload_n 2, 1) := by decide +kernel
theorem dX7_restore_6 : decode cX7_restore 6 = .ok (.isub, 1) := by decide +kernel
theorem dX7_restore_7 : decode cX7_restore 7 = .ok (.putfield 18, 3) := by decide +kernel
theorem dX7_restore_10 : decode cX7_restore 10 = .ok (.aload_n 1, 1) := by decide +kernel
theorem dX7_restore_11 : decode cX7_restore 11 = .ok (.aload_n 0, 1) := by decide +kernel
theorem dX7_restore_12 : decode cX7_restore 12 = .ok (.getfield 11, 3) := by decide +kernel
theorem dX7_restore_15 : decode cX7_restore 15 = .ok (.aload_n 0, 1) := by decide +kernel
theorem dX7_restore_16 : decode cX7_restore 16 = .ok (.getfield 22, 3) := by decide +kernel
theorem dX7_restore_19 : decode cX7_restore 19 = .ok (.aload_n 0, 1) := by decide +kernel
theorem dX7_restore_20 : decode cX7_restore 20 = .ok (.getfield 18, 3) := by decide +kernel
theorem dX7_restore_23 : decode cX7_restore 23 = .ok (.iadd, 1) := by decide +kernel
theorem dX7_restore_24 : decode cX7_restore 24 = .ok (.bipush 16, 2) := by decide +kernel
theorem dX7_restore_26 : decode cX7_restore 26 = .ok (.irem, 1) := by decide +kernel
theorem dX7_restore_27 : decode cX7_restore 27 = .ok (.aaload, 1) := by decide +kernel
theorem dX7_restore_28 : decode cX7_restore 28 = .ok (.invokevirtual 25, 3) := by decide +kernel
theorem dX7_restore_31 : decode cX7_restore 31 = .ok (.return_, 1) := by decide +kernel
theorem dX7_forget_0 : decode cX7_forget 0 = .ok (.aload_n 0, 1) := by decide +kernel
theorem dX7_forget_1 : decode cX7_forget 1 = .ok (.iconst 0, 1) := by decide +kernel
theorem dX7_forget_2 : decode cX7_forget 2 = .ok (.putfield 18, 3) := by decide +kernel
theorem dX7_forget_5 : decode cX7_forget 5 = .ok (.return_, 1) := by decide +kernel
theorem dJ6_bitCount_0f7a4_0 : decode cJ6_bitCount_0f7a4 0 = .ok (.iload_n 0, 1) := by decide +kernel
theorem dJ6_bitCount_0f7a4_1 : decode cJ6_bitCount_0f7a4 1 = .ok (.iload_n 0, 1) := by decide +kernel
theorem dJ6_bitCount_0f7a4_2 : decode cJ6_bitCount_0f7a4 2 = .ok (.iconst 1, 1) := by decide +kernel
theorem dJ6_bitCount_0f7a4_3 : decode cJ6_bitCount_0f7a4 3 = .ok (.iushr, 1) := by decide +kernel
theorem dJ6_bitCount_0f7a4_4 : decode cJ6_bitCount_0f7a4 4 = .ok (.ldc_w 265, 3) := by decide +kernel
theorem dJ6_bitCount_0f7a4_7 : decode cJ6_bitCount_0f7a4 7 = .ok (.iand, 1) := by decide +kernel
theorem dJ6_bitCount_0f7a4_8 : decode cJ6_bitCount_0f7a4 8 = .ok (.isub, 1) := by decide +kernel
theorem dJ6_bitCount_0f7a4_9 : decode cJ6_bitCount_0f7a4 9 = .ok (.istore_n 0, 1) := by decide +kernel
theorem dJ6_bitCount_0f7a4_10 : decode cJ6_bitCount_0f7a4 10 = .ok (.iload_n 0, 1) := by decide +kernel
theorem dJ6_bitCount_0f7a4_11 : decode cJ6_bitCount_0f7a4 11 = .ok (.ldc_w 266, 3) := by decide +kernel
theorem dJ6_bitCount_0f7a4_14 : decode cJ6_bitCount_0f7a4 14 = .ok (.iand, 1) := by decide +kernel
theorem dJ6_bitCount_0f7a4_15 : decode cJ6_bitCount_0f7a4 15 = .ok (.iload_n 0, 1) := by decide +kernel
theorem dJ6_bitCount_0f7a4_16 : decode cJ6_bitCount_0f7a4 16 = .ok (.iconst 2, 1) := by decide +kernel
theorem dJ6_bitCount_0f7a4_17 : decode cJ6_bitCount_0f7a4 17 = .ok (.iushr, 1) := by decide +kernel
theorem dJ6_bitCount_0f7a4_18 : decode cJ6_bitCount_0f7a4 18 = .ok (.ldc_w 266, 3) := by decide +kernel
theorem dJ6_bitCount_0f7a4_21 : decode cJ6_bitCount_0f7a4 21 = .ok (.iand, 1) := by decide +kernel
theorem dJ6_bitCount_0f7a4_22 : decode cJ6_bitCount_0f7a4 22 = .ok (.iadd, 1) := by decide +kernel
theorem dJ6_bitCount_0f7a4_23 : decode cJ6_bitCount_0f7a4 23 = .ok (.istore_n 0, 1) := by decide +kernel
theorem dJ6_bitCount_0f7a4_24 : decode cJ6_bitCount_0f7a4 24 = .ok (.iload_n 0, 1) := by decide +kernel
theorem dJ6_bitCount_0f7a4_25 : decode cJ6_bitCount_0f7a4 25 = .ok (.iload_n 0, 1) := by decide +kernel
theorem dJ6_bitCount_0f7a4_26 : decode cJ6_bitCount_0f7a4 26 = .ok (.iconst 4, 1) := by decide +kernel
theorem dJ6_bitCount_0f7a4_27 : decode cJ6_bitCount_0f7a4 27 = .ok (.iushr, 1) := by decide +kernel
theorem dJ6_bitCount_0f7a4_28 : decode cJ6_bitCount_0f7a4 28 = .ok (.iadd, 1) := by decide +kernel
theorem dJ6_bitCount_0f7a4_29 : decode cJ6_bitCount_0f7a4 29 = .ok (.ldc_w 267, 3) := by decide +kernel
theorem dJ6_bitCount_0f7a4_32 : decode cJ6_bitCount_0f7a4 32 = .ok (.iand, 1) := by decide +kernel
theorem dJ6_bitCount_0f7a4_33 : decode cJ6_bitCount_0f7a4 33 = .ok (.istore_n 0, 1) := by decide +kernel
theorem dJ6_bitCount_0f7a4_34 : decode cJ6_bitCount_0f7a4 34 = .ok (.iload_n 0, 1) := by decide +kernel
theorem dJ6_bitCount_0f7a4_35 : decode cJ6_bitCount_0f7a4 35 = .ok (.iload_n 0, 1) := by decide +kernel
theorem dJ6_bitCount_0f7a4_36 : decode cJ6_bitCount_0f7a4 36 = .ok (.bipush 8, 2) := by decide +kernel
theorem dJ6_bitCount_0f7a4_38 : decode cJ6_bitCount_0f7a4 38 = .ok (.iushr, 1) := by decide +kernel
theorem dJ6_bitCount_0f7a4_39 : decode cJ6_bitCount_0f7a4 39 = .ok (.iadd, 1) := by decide +kernel
theorem dJ6_bitCount_0f7a4_40 : decode cJ6_bitCount_0f7a4 40 = .ok (.istore_n 0, 1) := by decide +kernel
theorem dJ6_bitCount_0f7a4_41 : decode cJ6_bitCount_0f7a4 41 = .ok (.iload_n 0, 1) := by decide +kernel
theorem dJ6_bitCount_0f7a4_42 : decode cJ6_bitCount_0f7a4 42 = .ok (.iload_n 0, 1) := by decide +kernel
theorem dJ6_bitCount_0f7a4_43 : decode cJ6_bitCount_0f7a4 43 = .ok (.bipush 16, 2) := by decide +kernel
theorem dJ6_bitCount_0f7a4_45 : decode cJ6_bitCount_0f7a4 45 = .ok (.iushr, 1) := by decide +kernel
theorem dJ6_bitCount_0f7a4_46 : decode cJ6_bitCount_0f7a4 46 = .ok (.iadd, 1) := by decide +kernel
theorem dJ6_bitCount_0f7a4_47 : decode cJ6_bitCount_0f7a4 47 = .ok (.istore_n 0, 1) := by decide +kernel
theorem dJ6_bitCount_0f7a4_48 : decode cJ6_bitCount_0f7a4 48 = .ok (.iload_n 0, 1) := by decide +kernel
theorem dJ6_bitCount_0f7a4_49 : decode cJ6_bitCount_0f7a4 49 = .ok (.bipush 63, 2) := by decide +kernel
theorem dJ6_bitCount_0f7a4_51 : decode cJ6_bitCount_0f7a4 51 = .ok (.iand, 1) := by decide +kernel
theorem dJ6_bitCount_0f7a4_52 : decode cJ6_bitCount_0f7a4 52 = .ok (.ireturn, 1) := by decide +kernel
theorem dJ9_max_7cf53_0 : decode cJ9_max_7cf53 0 = .ok (.iload_n 0, 1) := by decide +kernel
theorem dJ9_max_7cf53_1 : decode cJ9_max_7cf53 1 = .ok (.iload_n 1, 1) := by decide +kernel
theorem dJ9_max_7cf53_2 : decode cJ9_max_7cf53 2 = .ok (.if_icmp .lt 7, 3) := by decide +kernel
theorem dJ9_max_7cf53_5 : decode cJ9_max_7cf53 5 = .ok (.iload_n 0, 1) := by decide +kernel
theorem dJ9_max_7cf53_6 : decode cJ9_max_7cf53 6 = .ok (.goto 4, 3) := by decide +kernel
theorem dJ9_max_7cf53_9 : decode cJ9_max_7cf53 9 = .ok (.iload_n 1, 1) := by decide +kernel
theorem dJ9_max_7cf53_10 : decode cJ9_max_7cf53 10 = .ok (.ireturn, 1) := by decide +kernel
theorem dJ9_min_7cf53_0 : decode cJ9_min_7cf53 0 = .ok (.iload_n 0, 1) := by decide +kernel
theorem dJ9_min_7cf53_1 : decode cJ9_min_7cf53 1 = .ok (.iload_n 1, 1) := by decide +kernel
theorem dJ9_min_7cf53_2 : decode cJ9_min_7cf53 2 = .ok (.if_icmp .gt 7, 3) := by decide +kernel
theorem dJ9_min_7cf53_5 : decode cJ9_min_7cf53 5 = .ok (.iload_n 0, 1) := by decide +kernel
theorem dJ9_min_7cf53_6 : decode cJ9_min_7cf53 6 = .ok (.goto 4, 3) := by decide +kernel
theorem dJ9_min_7cf53_9 : decode cJ9_min_7cf53 9 = .ok (.iload_n 1, 1) := by decide +kernel
theorem dJ9_min_7cf53_10 : decode cJ9_min_7cf53 10 = .ok (.ireturn, 1) := by decide +kernel
end
section
theorem dX8_init_0 : decode cX8_init 0 = .ok (.aload_n 0, 1) := by decide +kernel
theorem dX8_init_1 : decode cX8_init 1 = .ok (.invokespecial 3, 3) := by decide +kernel
theorem dX8_init_4 : decode cX8_init 4 = .ok (.aload_n 0, 1) := by decide +kernel
theorem dX8_init_5 : decode cX8_init 5 = .ok (.iconst 1, 1) := by decide +kernel
theorem dX8_init_6 : decode cX8_init 6 = .ok (.putfield 9, 3) := by decide +kernel
theorem dX8_init_9 : decode cX8_init 9 = .ok (.aload_n 0, 1) := by decide +kernel
theorem dX8_init_10 : decode cX8_init 10 = .ok (.bipush 9, 2) := by decide +kernel
theorem dX8_init_12 : decode cX8_init 12 = .ok (.putfield 15, 3) := by decide +kernel
theorem dX8_init_15 : decode cX8_init 15 = .ok (.aload_n 0, 1) := by decide +kernel
theorem dX8_init_16 : decode cX8_init 16 = .ok (.bipush 7, 2) := by decide +kernel
theorem dX8_init_18 : decode cX8_init 18 = .ok (.newarray .int, 2) := by decide +kernel
theorem dX8_init_20 : decode cX8_init 20 = .ok (.putfield 18, 3) := by decide +kernel
theorem dX8_init_23 : decode cX8_init 23 = .ok (.aload_n 0, 1) := by decide +kernel
theorem dX8_init_24 : decode cX8_init 24 = .ok (.bipush 6, 2) := by decide +kernel
theorem dX8_init_26 : decode cX8_init 26 = .ok (.anewarray 22, 3) := by decide +kernel
theorem dX8_init_29 : decode cX8_init 29 = .ok (.putfield 24, 3) := by decide +kernel
theorem dX8_init_32 : decode cX8_init 32 = .ok (.aload_n 0, 1) := by decide +kernel
theorem dX8_init_33 : decode cX8_init 33 = .ok (.bipush 12, 2) := by decide +kernel
theorem dX8_init_35 : decode cX8_init 35 = .ok (.newarray .int, 2) := by decide +kernel
theorem dX8_init_37 : decode cX8_init 37 = .ok (.putfield 28, 3) := by decide +kernel
theorem dX8_init_40 : decode cX8_init 40 = .ok (.aload_n 0, 1) := by decide +kernel
theorem dX8_init_41 : decode cX8_init 41 = .ok (.bipush 12, 2) := by decide +kernel
theorem dX8_init_43 : decode cX8_init 43 = .ok (.newarray .int, 2) := by decide +kernel
theorem dX8_init_45 : decode cX8_init 45 = .ok (.putfield 31, 3) := by decide +kernel
theorem dX8_init_48 : decode cX8_init 48 = .ok (.aload_n 0, 1) := by decide +kernel
theorem dX8_init_49 : decode cX8_init 49 = .ok (.getfield 18, 3) := by decide +kernel
theorem dX8_init_52 : decode cX8_init 52 = .ok (.iconst 0, 1) := by decide +kernel
theorem dX8_init_53 : decode cX8_init 53 = .ok (.iconst (-1), 1) := by decide +kernel
theorem dX8_init_54 : decode cX8_init 54 = .ok (.iastore, 1) := by decide +kernel
theorem dX8_init_55 : decode cX8_init 55 = .ok (.iconst 0, 1) := by decide +kernel
theorem dX8_init_56 : decode cX8_init 56 = .ok (.istore_n 1, 1) := by decide +kernel
theorem dX8_init_57 : decode cX8_init 57 = .ok (.iload_n 1, 1) := by decide +kernel
theorem dX8_init_58 : decode cX8_init 58 = .ok (.bipush 6, 2) := by decide +kernel
theorem dX8_init_60 : decode cX8_init 60 = .ok (.if_icmp .ge 22, 3) := by decide +kernel
theorem dX8_init_63 : decode cX8_init 63 = .ok (.aload_n 0, 1) := by decide +kernel
theorem dX8_init_64 : decode cX8_init 64 = .ok (.getfield 24, 3) := by decide +kernel
theorem dX8_init_67 : decode cX8_init 67 = .ok (.iload_n 1, 1) := by decide +kernel
theorem dX8_init_68 : decode cX8_init 68 = .ok (.new 22, 3) := by decide +kernel
theorem dX8_init_71 : decode cX8_init 71 = .ok (.dup, 1) := by decide +kernel
theorem dX8_init_72 : decode cX8_init 72 = .ok (.invokespecial 34, 3) := by decide +kernel
theorem dX8_init_75 : decode cX8_init 75 = .ok (.aastore, 1) := by decide +kernel
theorem dX8_init_76 : decode cX8_init 76 = .ok (.iinc 1 1, 3) := by decide +kernel
theorem dX8_init_79 : decode cX8_init 79 = .ok (.goto (-22), 3) := by decide +kernel
theorem dX8_init_82 : decode cX8_init 82 = .ok (.return_, 1) := by decide +kernel
theorem dX8_copyFrom_0 : decode cX8_copyFrom 0 = .ok (.aload_n 0, 1) := by decide +kernel
theorem dX8_copyFrom_1 : decode cX8_copyFrom 1 = .ok (.aload_n 1, 1) := by decide +kernel
theorem dX8_copyFrom_2 : decode cX8_copyFrom 2 = .ok (.getfield 9, 3) := by decide +kernel
theorem dX8_copyFrom_5 : decode cX8_copyFrom 5 = .ok (.putfield 9, 3) := by decide +kernel
theorem dX8_copyFrom_8 : decode cX8_copyFrom 8 = .ok (.aload_n 0, 1) := by decide +kernel
theorem dX8_copyFrom_9 : decode cX8_copyFrom 9 = .ok (.aload_n 1, 1) := by decide +kernel
theorem dX8_copyFrom_10 : decode cX8_copyFrom 10 = .ok (.getfield 35, 3) := by decide +kernel
theorem dX8_copyFrom_13 : decode cX8_copyFrom 13 = .ok (.putfield 35, 3) := by decide +kernel
theorem dX8_copyFrom_16 : decode cX8_copyFrom 16 = .ok (.aload_n 0, 1) := by decide +kernel
theorem dX8_copyFrom_17 : decode cX8_copyFrom 17 = .ok (.aload_n 1, 1) := by decide +kernel
theorem dX8_copyFrom_18 : decode cX8_copyFrom 18 = .ok (.getfield 38, 3) := by decide +kernel
theorem dX8_copyFrom_21 : decode cX8_copyFrom 21 = .ok (.putfield 38, 3) := by decide +kernel
theorem dX8_copyFrom_24 : decode cX8_copyFrom 24 = .ok (.aload_n 0, 1) := by decide +kernel
theorem dX8_copyFrom_25 : decode cX8_copyFrom 25 = .ok (.aload_n 1, 1) := by decide +kernel
theorem dX8_copyFrom_26 : decode cX8_copyFrom 26 = .ok (.getfield 15, 3) := by decide +kernel
theorem dX8_copyFrom_29 : decode cX8_copyFrom 29 = .ok (.putfield 15, 3) := by decide +kernel
theorem dX8_copyFrom_32 : decode cX8_copyFrom 32 = .ok (.aload_n 0, 1) := by decide +kernel
theorem dX8_copyFrom_33 : decode cX8_copyFrom 33 = .ok (.aload_n 1, 1) := by decide +kernel
theorem dX8_copyFrom_34 : decode cX8_copyFrom 34 = .ok (.getfield 41, 3) := by decide +kernel
theorem dX8_copyFrom_37 : decode cX8_copyFrom 37 = .ok (.putfield 41, 3) := by decide +kernel
theorem dX8_copyFrom_40 : decode cX8_copyFrom 40 = .ok (.aload_n 0, 1) := by decide +kernel
theorem dX8_copyFrom_41 : decode cX8_copyFrom 41 = .ok (.aload_n 1, 1) := by decide +kernel
theorem dX8_copyFrom_42 : decode cX8_copyFrom 42 = .ok (.getfield 44, 3) := by decide +kernel
theorem dX8_copyFrom_45 : decode cX8_copyFrom 45 = .ok (.putfield 44, 3) := by decide +kernel
theorem dX8_copyFrom_48 : decode cX8_copyFrom 48 = .ok (.aload_n 0, 1) := by decide +kernel
theorem dX8_copyFrom_49 : decode cX8_copyFrom 49 = .ok (.aload_n 1, 1) := by decide +kernel
theorem dX8_copyFrom_50 : decode cX8_copyFrom 50 = .ok (.getfield 47, 3) := by decide +kernel
theorem dX8_copyFrom_53 : decode cX8_copyFrom 53 = .ok (.putfield 47, 3) := by decide +kernel
theorem dX8_copyFrom_56 : decode cX8_copyFrom 56 = .ok (.aload_n 1, 1) := by decide +kernel
theorem dX8_copyFrom_57 : decode cX8_copyFrom 57 = .ok (.getfield 18, 3) := by decide +kernel
theorem dX8_copyFrom_60 : decode cX8_copyFrom 60 = .ok (.iconst 0, 1) := by decide +kernel
theorem dX8_copyFrom_61 : decode cX8_copyFrom 61 = .ok (.aload_n 0, 1) := by decide +kernel
theorem dX8_copyFrom_62 : decode cX8_copyFrom 62 = .ok (.getfield 18, 3) := by decide +kernel
theorem dX8_copyFrom_65 : decode cX8_copyFrom 65 = .ok (.iconst 0, 1) := by decide +kernel
theorem dX8_copyFrom_66 : decode cX8_copyFrom 66 = .ok (.bipush 7, 2) := by decide +kernel
theorem dX8_copyFrom_68 : decode cX8_copyFrom 68 = .ok (.invokestatic 50, 3) := by decide +kernel
theorem dX8_copyFrom_71 : decode cX8_copyFrom 71 = .ok (.iconst 0, 1) := by decide +kernel
theorem dX8_copyFrom_72 : decode cX8_copyFrom 72 = .ok (.istore_n 2, 1) := by decide +kernel
theorem dX8_copyFrom_73 : decode cX8_copyFrom 73 = .ok (.iload_n 2, 1) := by decide +kernel
theorem dX8_copyFrom_74 : decode cX8_copyFrom 74 = .ok (.aload_n 0, 1) := by decide +kernel
theorem dX8_copyFrom_75 : decode cX8_copyFrom 75 = .ok (.getfield 35, 3) := by decide +kernel
theorem dX8_copyFrom_78 : decode cX8_copyFrom 78 = .ok (.if_icmp .ge 24, 3) := by decide +kernel
theorem dX8_copyFrom_81 : decode cX8_copyFrom 81 = .ok (.aload_n 0, 1) := by decide +kernel
theorem dX8_copyFrom_82 : decode cX8_copyFrom 82 = .ok (.getfield 24, 3) := by decide +kernel
theorem dX8_copyFrom_85 : decode cX8_copyFrom 85 = .ok (.iload_n 2, 1) := by decide +kernel
theorem dX8_copyFrom_86 : decode cX8_copyFrom 86 = .ok (.aaload, 1) := by decide +kernel
theorem dX8_copyFrom_87 : decode cX8_copyFrom 87 = .ok (.aload_n 1, 1) := by decide +kernel
theorem dX8_copyFrom_88 : decode cX8_copyFrom 88 = .ok (.getfield 24, 3) := by decide +kernel
theorem dX8_copyFrom_91 : decode cX8_copyFrom 91 = .ok (.iload_n 2, 1) := by decide +kernel
theorem dX8_copyFrom_92 : decode cX8_copyFrom 92 = .ok (.aaload, 1) := by decide +kernel
theorem dX8_copyFrom_93 : decode cX8_copyFrom 93 = .ok (.invokevirtual 56, 3) := by decide +kernel
theorem dX8_copyFrom_96 : decode cX8_copyFrom 96 = .ok (.iinc 2 1, 3) := by decide +kernel
theorem dX8_copyFrom_99 : decode cX8_copyFrom 99 = .ok (.goto (-26), 3) := by decide +kernel
theorem dX8_copyFrom_102 : decode cX8_copyFrom 102 = .ok (.aload_n 1, 1) := by decide +kernel
theorem dX8_copyFrom_103 : decode cX8_copyFrom 103 = .ok (.getfield 28, 3) := by decide +kernel
theorem dX8_copyFrom_106 : decode cX8_copyFrom 106 = .ok (.iconst 0, 1) := by decide +kernel
theorem dX8_copyFrom_107 : decode cX8_copyFrom 107 = .ok (.aload_n 0, 1) := by decide +kernel
theorem dX8_copyFrom_108 : decode cX8_copyFrom 108 = .ok (.getfield 28, 3) := by decide +kernel
theorem dX8_copyFrom_111 : decode cX8_copyFrom 111 = .ok (.iconst 0, 1) := by decide +kernel
theorem dX8_copyFrom_112 : decode cX8_copyFrom 112 = .ok (.bipush 12, 2) := by decide +kernel
theorem dX8_copyFrom_114 : decode cX8_copyFrom 114 = .ok (.invokestatic 50, 3) := by decide +kernel
theorem dX8_copyFrom_117 : decode cX8_copyFrom 117 = .ok (.aload_n 1, 1) := by decide +kernel
theorem dX8_copyFrom_118 : decode cX8_copyFrom 118 = .ok (.getfield 31, 3) := by decide +kernel
theorem dX8_copyFrom_121 : decode cX8_copyFrom 121 = .ok (.iconst 0, 1) := by decide +kernel
theorem dX8_copyFrom_122 : decode cX8_copyFrom 122 = .ok (.aload_n 0, 1) := by decide +kernel
theorem dX8_copyFrom_123 : decode cX8_copyFrom 123 = .ok (.getfield 31, 3) := by decide +kernel
theorem dX8_copyFrom_126 : decode cX8_copyFrom 126 = .ok (.iconst 0, 1) := by decide +kernel
theorem dX8_copyFrom_127 : decode cX8_copyFrom 127 = .ok (.bipush 12, 2) := by decide +kernel
theorem dX8_copyFrom_129 : decode cX8_copyFrom 129 = .ok (.invokestatic 50, 3) := by decide +kernel
theorem dX8_copyFrom_132 : decode cX8_copyFrom 132 = .ok (.return_, 1) := by decide +kernel
theorem dX8_hasBroker_0 : decode cX8_hasBroker 0 = .ok (.iload_n 1, 1) := by decide +kernel
theorem dX8_hasBroker_1 : decode cX8_hasBroker 1 = .ok (.iconst 0, 1) := by decide +kernel
theorem dX8_hasBroker_2 : decode cX8_hasBroker 2 = .ok (.aload_n 0, 1) := by decide +kernel
theorem dX8_hasBroker_3 : decode cX8_hasBroker 3 = .ok (.getfield 9, 3) := by decide +kernel
theorem dX8_hasBroker_6 : decode cX8_hasBroker 6 = .ok (.iconst 1, 1) := by decide +kernel
theorem dX8_hasBroker_7 : decode cX8_hasBroker 7 = .ok (.isub, 1) := by decide +kernel
theorem dX8_hasBroker_8 : decode cX8_hasBroker 8 = .ok (.invokestatic 60, 3) := by decide +kernel
theorem dX8_hasBroker_11 : decode cX8_hasBroker 11 = .ok (.ireturn, 1) := by decide +kernel
theorem dX8_hasClient_0 : decode cX8_hasClient 0 = .ok (.iload_n 1, 1) := by decide +kernel
theorem dX8_hasClient_1 : decode cX8_hasClient 1 = .ok (.iconst 0, 1) := by decide +kernel
theorem dX8_hasClient_2 : decode cX8_hasClient 2 = .ok (.aload_n 0, 1) := by decide +kernel
theorem dX8_hasClient_3 : decode cX8_hasClient 3 = .ok (.getfield 35, 3) := by decide +kernel
theorem dX8_hasClient_6 : decode cX8_hasClient 6 = .ok (.iconst 1, 1) := by decide +kernel
theorem dX8_hasClient_7 : decode cX8_hasClient 7 = .ok (.isub, 1) := by decide +kernel
theorem dX8_hasClient_8 : decode cX8_hasClient 8 = .ok (.invokestatic 60, 3) := by decide +kernel
theorem dX8_hasClient_11 : decode cX8_hasClient 11 = .ok (.ireturn, 1) := by decide +kernel
theorem dX8_hasWish_0 : decode cX8_hasWish 0 = .ok (.iload_n 1, 1) := by decide +kernel
theorem dX8_hasWish_1 : decode cX8_hasWish 1 = .ok (.iconst 0, 1) := by decide +kernel
theorem dX8_hasWish_2 : decode cX8_hasWish 2 = .ok (.aload_n 0, 1) := by decide +kernel
theorem dX8_hasWish_3 : decode cX8_hasWish 3 = .ok (.getfield 38, 3) := by decide +kernel
theorem dX8_hasWish_6 : decode cX8_hasWish 6 = .ok (.iconst 1, 1) := by decide +kernel
theorem dX8_hasWish_7 : decode cX8_hasWish 7 = .ok (.isub, 1) := by decide +kernel
theorem dX8_hasWish_8 : decode cX8_hasWish 8 = .ok (.invokestatic 60, 3) := by decide +kernel
theorem dX8_hasWish_11 : decode cX8_hasWish 11 = .ok (.ireturn, 1) := by decide +kernel
theorem dX8_areNeighbours_0 : decode cX8_areNeighbours 0 = .ok (.aload_n 0, 1) := by decide +kernel
theorem dX8_areNeighbours_1 : decode cX8_areNeighbours 1 = .ok (.iload_n 1, 1) := by decide +kernel
theorem dX8_areNeighbours_2 : decode cX8_areNeighbours 2 = .ok (.invokevirtual 64, 3) := by decide +kernel
theorem dX8_areNeighbours_5 : decode cX8_areNeighbours 5 = .ok (.ifCond .eq 35, 3) := by decide +kernel
theorem dX8_areNeighbours_8 : decode cX8_areNeighbours 8 = .ok (.aload_n 0, 1) := by decide +kernel
theorem dX8_areNeighbours_9 : decode cX8_areNeighbours 9 = .ok (.iload_n 2, 1) := by decide +kernel
theorem dX8_areNeighbours_10 : decode cX8_areNeighbours 10 = .ok (.invokevirtual 64, 3) := by decide +kernel
theorem dX8_areNeighbours_13 : decode cX8_areNeighbours 13 = .ok (.ifCond .eq 27, 3) := by decide +kernel
theorem dX8_areNeighbours_16 : decode cX8_areNeighbours 16 = .ok (.aload_n 0, 1) := by decide +kernel
theorem dX8_areNeighbours_17 : decode cX8_areNeighbours 17 = .ok (.getfield 18, 3) := by decide +kernel
theorem dX8_areNeighbours_20 : decode cX8_areNeighbours 20 = .ok (.iload_n 1, 1) := by decide +kernel
theorem dX8_areNeighbours_21 : decode cX8_areNeighbours 21 = .ok (.iaload, 1) := by decide +kernel
theorem dX8_areNeighbours_22 : decode cX8_areNeighbours 22 = .ok (.iload_n 2, 1) := by decide +kernel
theorem dX8_areNeighbours_23 : decode cX8_areNeighbours 23 = .ok (.if_icmp .eq 13, 3) := by decide +kernel
theorem dX8_areNeighbours_26 : decode cX8_areNeighbours 26 = .ok (.aload_n 0, 1) := by decide +kernel
theorem dX8_areNeighbours_27 : decode cX8_areNeighbours 27 = .ok (.getfield 18, 3) := by decide +kernel
theorem dX8_areNeighbours_30 : decode cX8_areNeighbours 30 = .ok (.iload_n 2, 1) := by decide +kernel
theorem dX8_areNeighbours_31 : decode cX8_areNeighbours 31 = .ok (.iaload, 1) := by decide +kernel
theorem dX8_areNeighbours_32 : decode cX8_areNeighbours 32 = .ok (.iload_n 1, 1) := by decide +kernel
theorem dX8_areNeighbours_33 : decode cX8_areNeighbours 33 = .ok (.if_icmp .ne 7, 3) := by decide +kernel
theorem dX8_areNeighbours_36 : decode cX8_areNeighbours 36 = .ok (.iconst 1, 1) := by decide +kernel
theorem dX8_areNeighbours_37 : decode cX8_areNeighbours 37 = .ok (.goto 4, 3) := by decide +kernel
theorem dX8_areNeighbours_40 : decode cX8_areNeighbours 40 = .ok (.iconst 0, 1) := by decide +kernel
theorem dX8_areNeighbours_41 : decode cX8_areNeighbours 41 = .ok (.ireturn, 1) := by decide +kernel
theorem dX8_neighboursOf_0 : decode cX8_neighboursOf 0 = .ok (.iconst 0, 1) := by decide +kernel
theorem dX8_neighboursOf_1 : decode cX8_neighboursOf 1 = .ok (.istore_n 2, 1) := by decide +kernel
theorem dX8_neighboursOf_2 : decode cX8_neighboursOf 2 = .ok (.iconst 0, 1) := by decide +kernel
theorem dX8_neighboursOf_3 : decode cX8_neighboursOf 3 = .ok (.istore_n 3, 1) := by decide +kernel
theorem dX8_neighboursOf_4 : decode cX8_neighboursOf 4 = .ok (.iload_n 3, 1) := by decide +kernel
theorem dX8_neighboursOf_5 : decode cX8_neighboursOf 5 = .ok (.aload_n 0, 1) := by decide +kernel
theorem dX8_neighboursOf_6 : decode cX8_neighboursOf 6 = .ok (.getfield 9, 3) := by decide +kernel
theorem dX8_neighboursOf_9 : decode cX8_neighboursOf 9 = .ok (.if_icmp .ge 24, 3) := by decide +kernel
theorem dX8_neighboursOf_12 : decode cX8_neighboursOf 12 = .ok (.aload_n 0, 1) := by decide +kernel
theorem dX8_neighboursOf_13 : decode cX8_neighboursOf 13 = .ok (.iload_n 1, 1) := by decide +kernel
theorem dX8_neighboursOf_14 : decode cX8_neighboursOf 14 = .ok (.iload_n 3, 1) := by decide +kernel
theorem dX8_neighboursOf_15 : decode cX8_neighboursOf 15 = .ok (.invokevirtual 68, 3) := by decide +kernel
theorem dX8_neighboursOf_18 : decode cX8_neighboursOf 18 = .ok (.ifCond .eq 9, 3) := by decide +kernel
theorem dX8_neighboursOf_21 : decode cX8_neighboursOf 21 = .ok (.iload_n 2, 1) := by decide +kernel
theorem dX8_neighboursOf_22 : decode cX8_neighboursOf 22 = .ok (.iconst 1, 1) := by decide +kernel
theorem dX8_neighboursOf_23 : decode cX8_neighboursOf 23 = .ok (.iload_n 3, 1) := by decide +kernel
theorem dX8_neighboursOf_24 : decode cX8_neighboursOf 24 = .ok (.ishl, 1) := by decide +kernel
theorem dX8_neighboursOf_25 : decode cX8_neighboursOf 25 = .ok (.ior, 1) := by decide +kernel
theorem dX8_neighboursOf_26 : decode cX8_neighboursOf 26 = .ok (.istore_n 2, 1) := by decide +kernel
theorem dX8_neighboursOf_27 : decode cX8_neighboursOf 27 = .ok (.iinc 3 1, 3) := by decide +kernel
theorem dX8_neighboursOf_30 : decode cX8_neighboursOf 30 = .ok (.goto (-26), 3) := by decide +kernel
theorem dX8_neighboursOf_33 : decode cX8_neighboursOf 33 = .ok (.iload_n 2, 1) := by decide +kernel
theorem dX8_neighboursOf_34 : decode cX8_neighboursOf 34 = .ok (.ireturn, 1) := by decide +kernel
theorem dX8_clientsHomeAt_0 : decode cX8_clientsHomeAt 0 = .ok (.iconst 0, 1) := by decide +kernel
theorem dX8_clientsHomeAt_1 : decode cX8_clientsHomeAt 1 = .ok (.istore_n 2, 1) := by decide +kernel
theorem dX8_clientsHomeAt_2 : decode cX8_clientsHomeAt 2 = .ok (.iconst 0, 1) := by decide +kernel
theorem dX8_clientsHomeAt_3 : decode cX8_clientsHomeAt 3 = .ok (.istore_n 3, 1) := by decide +kernel
theorem dX8_clientsHomeAt_4 : decode cX8_clientsHomeAt 4 = .ok (.iload_n 3, 1) := by decide +kernel
theorem dX8_clientsHomeAt_5 : decode cX8_clientsHomeAt 5 = .ok (.aload_n 0, 1) := by decide +kernel
theorem dX8_clientsHomeAt_6 : decode cX8_clientsHomeAt 6 = .ok (.getfield 35, 3) := by decide +kernel
theorem dX8_clientsHomeAt_9 : decode cX8_clientsHomeAt 9 = .ok (.if_icmp .ge 28, 3) := by decide +kernel
theorem dX8_clientsHomeAt_12 : decode cX8_clientsHomeAt 12 = .ok (.aload_n 0, 1) := by decide +kernel
theorem dX8_clientsHomeAt_13 : decode cX8_clientsHomeAt 13 = .ok (.getfield 24, 3) := by decide +kernel
theorem dX8_clientsHomeAt_16 : decode cX8_clientsHomeAt 16 = .ok (.iload_n 3, 1) := by decide +kernel
theorem dX8_clientsHomeAt_17 : decode cX8_clientsHomeAt 17 = .ok (.aaload, 1) := by decide +kernel
theorem dX8_clientsHomeAt_18 : decode cX8_clientsHomeAt 18 = .ok (.getfield 72, 3) := by decide +kernel
theorem dX8_clientsHomeAt_21 : decode cX8_clientsHomeAt 21 = .ok (.iload_n 1, 1) := by decide +kernel
theorem dX8_clientsHomeAt_22 : decode cX8_clientsHomeAt 22 = .ok (.if_icmp .ne 9, 3) := by decide +kernel
theorem dX8_clientsHomeAt_25 : decode cX8_clientsHomeAt 25 = .ok (.iload_n 2, 1) := by decide +kernel
theorem dX8_clientsHomeAt_26 : decode cX8_clientsHomeAt 26 = .ok (.iconst 1, 1) := by decide +kernel
theorem dX8_clientsHomeAt_27 : decode cX8_clientsHomeAt 27 = .ok (.iload_n 3, 1) := by decide +kernel
theorem dX8_clientsHomeAt_28 : decode cX8_clientsHomeAt 28 = .ok (.ishl, 1) := by decide +kernel
theorem dX8_clientsHomeAt_29 : decode cX8_clientsHomeAt 29 = .ok (.ior, 1) := by decide +kernel
theorem dX8_clientsHomeAt_30 : decode cX8_clientsHomeAt 30 = .ok (.istore_n 2, 1) := by decide +kernel
theorem dX8_clientsHomeAt_31 : decode cX8_clientsHomeAt 31 = .ok (.iinc 3 1, 3) := by decide +kernel
theorem dX8_clientsHomeAt_34 : decode cX8_clientsHomeAt 34 = .ok (.goto (-30), 3) := by decide +kernel
theorem dX8_clientsHomeAt_37 : decode cX8_clientsHomeAt 37 = .ok (.iload_n 2, 1) := by decide +kernel
theorem dX8_clientsHomeAt_38 : decode cX8_clientsHomeAt 38 = .ok (.ireturn, 1) := by decide +kernel
theorem dX8_wishesOf_0 : decode cX8_wishesOf 0 = .ok (.iconst 0, 1) := by decide +kernel
theorem dX8_wishesOf_1 : decode cX8_wishesOf 1 = .ok (.istore_n 2, 1) := by decide +kernel
theorem dX8_wishesOf_2 : decode cX8_wishesOf 2 = .ok (.iconst 0, 1) := by decide +kernel
theorem dX8_wishesOf_3 : decode cX8_wishesOf 3 = .ok (.istore_n 3, 1) := by decide +kernel
theorem dX8_wishesOf_4 : decode cX8_wishesOf 4 = .ok (.iload_n 3, 1) := by decide +kernel
theorem dX8_wishesOf_5 : decode cX8_wishesOf 5 = .ok (.aload_n 0, 1) := by decide +kernel
theorem dX8_wishesOf_6 : decode cX8_wishesOf 6 = .ok (.getfield 38, 3) := by decide +kernel
theorem dX8_wishesOf_9 : decode cX8_wishesOf 9 = .ok (.if_icmp .ge 28, 3) := by decide +kernel
theorem dX8_wishesOf_12 : decode cX8_wishesOf 12 = .ok (.iload_n 1, 1) := by decide +kernel
theorem dX8_wishesOf_13 : decode cX8_wishesOf 13 = .ok (.aload_n 0, 1) := by decide +kernel
theorem dX8_wishesOf_14 : decode cX8_wishesOf 14 = .ok (.getfield 28, 3) := by decide +kernel
theorem dX8_wishesOf_17 : decode cX8_wishesOf 17 = .ok (.iload_n 3, 1) := by decide +kernel
theorem dX8_wishesOf_18 : decode cX8_wishesOf 18 = .ok (.iaload, 1) := by decide +kernel
theorem dX8_wishesOf_19 : decode cX8_wishesOf 19 = .ok (.invokestatic 75, 3) := by decide +kernel
theorem dX8_wishesOf_22 : decode cX8_wishesOf 22 = .ok (.ifCond .eq 9, 3) := by decide +kernel
theorem dX8_wishesOf_25 : decode cX8_wishesOf 25 = .ok (.iload_n 2, 1) := by decide +kernel
theorem dX8_wishesOf_26 : decode cX8_wishesOf 26 = .ok (.iconst 1, 1) := by decide +kernel
theorem dX8_wishesOf_27 : decode cX8_wishesOf 27 = .ok (.iload_n 3, 1) := by decide +kernel
theorem dX8_wishesOf_28 : decode cX8_wishesOf 28 = .ok (.ishl, 1) := by decide +kernel
theorem dX8_wishesOf_29 : decode cX8_wishesOf 29 = .ok (.ior, 1) := by decide +kernel
theorem dX8_wishesOf_30 : decode cX8_wishesOf 30 = .ok (.istore_n 2, 1) := by decide +kernel
theorem dX8_wishesOf_31 : decode cX8_wishesOf 31 = .ok (.iinc 3 1, 3) := by decide +kernel
theorem dX8_wishesOf_34 : decode cX8_wishesOf 34 = .ok (.goto (-30), 3) := by decide +kernel
theorem dX8_wishesOf_37 : decode cX8_wishesOf 37 = .ok (.iload_n 2, 1) := by decide +kernel
theorem dX8_wishesOf_38 : decode cX8_wishesOf 38 = .ok (.ireturn, 1) := by decide +kernel
theorem dX8_wishesCoveredBy_0 : decode cX8_wishesCoveredBy 0 = .ok (.iconst 0, 1) := by decide +kernel
theorem dX8_wishesCoveredBy_1 : decode cX8_wishesCoveredBy 1 = .ok (.istore_n 2, 1) := by decide +kernel
theorem dX8_wishesCoveredBy_2 : decode cX8_wishesCoveredBy 2 = .ok (.iconst 0, 1) := by decide +kernel
theorem dX8_wishesCoveredBy_3 : decode cX8_wishesCoveredBy 3 = .ok (.istore_n 3, 1) := by decide +kernel
theorem dX8_wishesCoveredBy_4 : decode cX8_wishesCoveredBy 4 = .ok (.iload_n 3, 1) := by decide +kernel
theorem dX8_wishesCoveredBy_5 : decode cX8_wishesCoveredBy 5 = .ok (.aload_n 0, 1) := by decide +kernel
theorem dX8_wishesCoveredBy_6 : decode cX8_wishesCoveredBy 6 = .ok (.getfield 38, 3) := by decide +kernel
theorem dX8_wishesCoveredBy_9 : decode cX8_wishesCoveredBy 9 = .ok (.if_icmp .ge 38, 3) := by decide +kernel
theorem dX8_wishesCoveredBy_12 : decode cX8_wishesCoveredBy 12 = .ok (.iload_n 3, 1) := by decide +kernel
theorem dX8_wishesCoveredBy_13 : decode cX8_wishesCoveredBy 13 = .ok (.iload_n 1, 1) := by decide +kernel
theorem dX8_wishesCoveredBy_14 : decode cX8_wishesCoveredBy 14 = .ok (.if_icmp .eq 27, 3) := by decide +kernel
theorem dX8_wishesCoveredBy_17 : decode cX8_wishesCoveredBy 17 = .ok (.aload_n 0, 1) := by decide +kernel
theorem dX8_wishesCoveredBy_18 : decode cX8_wishesCoveredBy 18 = .ok (.getfield 31, 3) := by decide +kernel
theorem dX8_wishesCoveredBy_21 : decode cX8_wishesCoveredBy 21 = .ok (.iload_n 1, 1) := by decide +kernel
theorem dX8_wishesCoveredBy_22 : decode cX8_wishesCoveredBy 22 = .ok (.iaload, 1) := by decide +kernel
theorem dX8_wishesCoveredBy_23 : decode cX8_wishesCoveredBy 23 = .ok (.aload_n 0, 1) := by decide +kernel
theorem dX8_wishesCoveredBy_24 : decode cX8_wishesCoveredBy 24 = .ok (.getfield 31, 3) := by decide +kernel
theorem dX8_wishesCoveredBy_27 : decode cX8_wishesCoveredBy 27 = .ok (.iload_n 3, 1) := by decide +kernel
theorem dX8_wishesCoveredBy_28 : decode cX8_wishesCoveredBy 28 = .ok (.iaload, 1) := by decide +kernel
theorem dX8_wishesCoveredBy_29 : decode cX8_wishesCoveredBy 29 = .ok (.invokestatic 78, 3) := by decide +kernel
theorem dX8_wishesCoveredBy_32 : decode cX8_wishesCoveredBy 32 = .ok (.ifCond .eq 9, 3) := by decide +kernel
theorem dX8_wishesCoveredBy_35 : decode cX8_wishesCoveredBy 35 = .ok (.iload_n 2, 1) := by decide +kernel
theorem dX8_wishesCoveredBy_36 : decode cX8_wishesCoveredBy 36 = .ok (.iconst 1, 1) := by decide +kernel
theorem dX8_wishesCoveredBy_37 : decode cX8_wishesCoveredBy 37 = .ok (.iload_n 3, 1) := by decide +kernel
theorem dX8_wishesCoveredBy_38 : decode cX8_wishesCoveredBy 38 = .ok (.ishl, 1) := by decide +kernel
theorem dX8_wishesCoveredBy_39 : decode cX8_wishesCoveredBy 39 = .ok (.ior, 1) := by decide +kernel
theorem dX8_wishesCoveredBy_40 : decode cX8_wishesCoveredBy 40 = .ok (.istore_n 2, 1) := by decide +kernel
theorem dX8_wishesCoveredBy_41 : decode cX8_wishesCoveredBy 41 = .ok (.iinc 3 1, 3) := by decide +kernel
theorem dX8_wishesCoveredBy_44 : decode cX8_wishesCoveredBy 44 = .ok (.goto (-40), 3) := by decide +kernel
theorem dX8_wishesCoveredBy_47 : decode cX8_wishesCoveredBy 47 = .ok (.iload_n 2, 1) := by decide +kernel
theorem dX8_wishesCoveredBy_48 : decode cX8_wishesCoveredBy 48 = .ok (.ireturn, 1) := by decide +kernel
theorem dX8_clientsWishing_0 : decode cX8_clientsWishing 0 = .ok (.iconst 0, 1) := by decide +kernel
theorem dX8_clientsWishing_1 : decode cX8_clientsWishing 1 = .ok (.istore_n 2, 1) := by decide +kernel
theorem dX8_clientsWishing_2 : decode cX8_clientsWishing 2 = .ok (.iconst 0, 1) := by decide +kernel
theorem dX8_clientsWishing_3 : decode cX8_clientsWishing 3 = .ok (.istore_n 3, 1) := by decide +kernel
theorem dX8_clientsWishing_4 : decode cX8_clientsWishing 4 = .ok (.iload_n 3, 1) := by decide +kernel
theorem dX8_clientsWishing_5 : decode cX8_clientsWishing 5 = .ok (.aload_n 0, 1) := by decide +kernel
theorem dX8_clientsWishing_6 : decode cX8_clientsWishing 6 = .ok (.getfield 38, 3) := by decide +kernel
theorem dX8_clientsWishing_9 : decode cX8_clientsWishing 9 = .ok (.if_icmp .ge 33, 3) := by decide +kernel
theorem dX8_clientsWishing_12 : decode cX8_clientsWishing 12 = .ok (.aload_n 0, 1) := by decide +kernel
theorem dX8_clientsWishing_13 : decode cX8_clientsWishing 13 = .ok (.getfield 31, 3) := by decide +kernel
theorem dX8_clientsWishing_16 : decode cX8_clientsWishing 16 = .ok (.iload_n 3, 1) := by decide +kernel
theorem dX8_clientsWishing_17 : decode cX8_clientsWishing 17 = .ok (.iaload, 1) := by decide +kernel
theorem dX8_clientsWishing_18 : decode cX8_clientsWishing 18 = .ok (.iload_n 1, 1) := by decide +kernel
theorem dX8_clientsWishing_19 : decode cX8_clientsWishing 19 = .ok (.invokestatic 78, 3) := by decide +kernel
theorem dX8_clientsWishing_22 : decode cX8_clientsWishing 22 = .ok (.ifCond .eq 14, 3) := by decide +kernel
theorem dX8_clientsWishing_25 : decode cX8_clientsWishing 25 = .ok (.iload_n 2, 1) := by decide +kernel
theorem dX8_clientsWishing_26 : decode cX8_clientsWishing 26 = .ok (.iconst 1, 1) := by decide +kernel
theorem dX8_clientsWishing_27 : decode cX8_clientsWishing 27 = .ok (.aload_n 0, 1) := by decide +kernel
theorem dX8_clientsWishing_28 : decode cX8_clientsWishing 28 = .ok (.getfield 28, 3) := by decide +kernel
theorem dX8_clientsWishing_31 : decode cX8_clientsWishing 31 = .ok (.iload_n 3, 1) := by decide +kernel
theorem dX8_clientsWishing_32 : decode cX8_clientsWishing 32 = .ok (.iaload, 1) := by decide +kernel
theorem dX8_clientsWishing_33 : decode cX8_clientsWishing 33 = .ok (.ishl, 1) := by decide +kernel
theorem dX8_clientsWishing_34 : decode cX8_clientsWishing 34 = .ok (.ior, 1) := by decide +kernel
theorem dX8_clientsWishing_35 : decode cX8_clientsWishing 35 = .ok (.istore_n 2, 1) := by decide +kernel
theorem dX8_clientsWishing_36 : decode cX8_clientsWishing 36 = .ok (.iinc 3 1, 3) := by decide +kernel
theorem dX8_clientsWishing_39 : decode cX8_clientsWishing 39 = .ok (.goto (-35), 3) := by decide +kernel
theorem dX8_clientsWishing_42 : decode cX8_clientsWishing 42 = .ok (.iload_n 2, 1) := by decide +kernel
theorem dX8_clientsWishing_43 : decode cX8_clientsWishing 43 = .ok (.ireturn, 1) := by decide +kernel
theorem dX8_isWished_0 : decode cX8_isWished 0 = .ok (.iconst 0, 1) := by decide +kernel
theorem dX8_isWished_1 : decode cX8_isWished 1 = .ok (.istore_n 2, 1) := by decide +kernel
theorem dX8_isWished_2 : decode cX8_isWished 2 = .ok (.iload_n 2, 1) := by decide +kernel
theorem dX8_isWished_3 : decode cX8_isWished 3 = .ok (.aload_n 0, 1) := by decide +kernel
theorem dX8_isWished_4 : decode cX8_isWished 4 = .ok (.getfield 38, 3) := by decide +kernel
theorem dX8_isWished_7 : decode cX8_isWished 7 = .ok (.if_icmp .ge 21, 3) := by decide +kernel
theorem dX8_isWished_10 : decode cX8_isWished 10 = .ok (.aload_n 0, 1) := by decide +kernel
theorem dX8_isWished_11 : decode cX8_isWished 11 = .ok (.getfield 31, 3) := by decide +kernel
theorem dX8_isWished_14 : decode cX8_isWished 14 = .ok (.iload_n 2, 1) := by decide +kernel
theorem dX8_isWished_15 : decode cX8_isWished 15 = .ok (.iaload, 1) := by decide +kernel
theorem dX8_isWished_16 : decode cX8_isWished 16 = .ok (.iload_n 1, 1) := by decide +kernel
theorem dX8_isWished_17 : decode cX8_isWished 17 = .ok (.if_icmp .ne 5, 3) := by decide +kernel
theorem dX8_isWished_20 : decode cX8_isWished 20 = .ok (.iconst 1, 1) := by decide +kernel
theorem dX8_isWished_21 : decode cX8_isWished 21 = .ok (.ireturn, 1) := by decide +kernel
theorem dX8_isWished_22 : decode cX8_isWished 22 = .ok (.iinc 2 1, 3) := by decide +kernel
theorem dX8_isWished_25 : decode cX8_isWished 25 = .ok (.goto (-23), 3) := by decide +kernel
theorem dX8_isWished_28 : decode cX8_isWished 28 = .ok (.iconst 0, 1) := by decide +kernel
theorem dX8_isWished_29 : decode cX8_isWished 29 = .ok (.ireturn, 1) := by decide +kernel
theorem dX8_addBroker_0 : decode cX8_addBroker 0 = .ok (.aload_n 0, 1) := by decide +kernel
theorem dX8_addBroker_1 : decode cX8_addBroker 1 = .ok (.getfield 18, 3) := by decide +kernel
theorem dX8_addBroker_4 : decode cX8_addBroker 4 = .ok (.aload_n 0, 1) := by decide +kernel
theorem dX8_addBroker_5 : decode cX8_addBroker 5 = .ok (.getfield 9, 3) := by decide +kernel
theorem dX8_addBroker_8 : decode cX8_addBroker 8 = .ok (.iload_n 1, 1) := by decide +kernel
theorem dX8_addBroker_9 : decode cX8_addBroker 9 = .ok (.iastore, 1) := by decide +kernel
theorem dX8_addBroker_10 : decode cX8_addBroker 10 = .ok (.aload_n 0, 1) := by decide +kernel
theorem dX8_addBroker_11 : decode cX8_addBroker 11 = .ok (.dup, 1) := by decide +kernel
theorem dX8_addBroker_12 : decode cX8_addBroker 12 = .ok (.getfield 9, 3) := by decide +kernel
theorem dX8_addBroker_15 : decode cX8_addBroker 15 = .ok (.iconst 1, 1) := by decide +kernel
theorem dX8_addBroker_16 : decode cX8_addBroker 16 = .ok (.iadd, 1) := by decide +kernel
theorem dX8_addBroker_17 : decode cX8_addBroker 17 = .ok (.putfield 9, 3) := by decide +kernel
theorem dX8_addBroker_20 : decode cX8_addBroker 20 = .ok (.aload_n 0, 1) := by decide +kernel
theorem dX8_addBroker_21 : decode cX8_addBroker 21 = .ok (.getfield 9, 3) := by decide +kernel
theorem dX8_addBroker_24 : decode cX8_addBroker 24 = .ok (.iconst 1, 1) := by decide +kernel
theorem dX8_addBroker_25 : decode cX8_addBroker 25 = .ok (.isub, 1) := by decide +kernel
theorem dX8_addBroker_26 : decode cX8_addBroker 26 = .ok (.ireturn, 1) := by decide +kernel
theorem dX8_addClient_0 : decode cX8_addClient 0 = .ok (.aload_n 0, 1) := by decide +kernel
theorem dX8_addClient_1 : decode cX8_addClient 1 = .ok (.getfield 24, 3) := by decide +kernel
theorem dX8_addClient_4 : decode cX8_addClient 4 = .ok (.aload_n 0, 1) := by decide +kernel
theorem dX8_addClient_5 : decode cX8_addClient 5 = .ok (.getfield 35, 3) := by decide +kernel
theorem dX8_addClient_8 : decode cX8_addClient 8 = .ok (.aaload, 1) := by decide +kernel
theorem dX8_addClient_9 : decode cX8_addClient 9 = .ok (.iload_n 1, 1) := by decide +kernel
theorem dX8_addClient_10 : decode cX8_addClient 10 = .ok (.invokevirtual 83, 3) := by decide +kernel
theorem dX8_addClient_13 : decode cX8_addClient 13 = .ok (.aload_n 0, 1) := by decide +kernel
theorem dX8_addClient_14 : decode cX8_addClient 14 = .ok (.dup, 1) := by decide +kernel
theorem dX8_addClient_15 : decode cX8_addClient 15 = .ok (.getfield 35, 3) := by decide +kernel
theorem dX8_addClient_18 : decode cX8_addClient 18 = .ok (.iconst 1, 1) := by decide +kernel
theorem dX8_addClient_19 : decode cX8_addClient 19 = .ok (.iadd, 1) := by decide +kernel
theorem dX8_addClient_20 : decode cX8_addClient 20 = .ok (.putfield 35, 3) := by decide +kernel
theorem dX8_addClient_23 : decode cX8_addClient 23 = .ok (.aload_n 0, 1) := by decide +kernel
theorem dX8_addClient_24 : decode cX8_addClient 24 = .ok (.getfield 35, 3) := by decide +kernel
theorem dX8_addClient_27 : decode cX8_addClient 27 = .ok (.iconst 1, 1) := by decide +kernel
theorem dX8_addClient_28 : decode cX8_addClient 28 = .ok (.isub, 1) := by decide +kernel
theorem dX8_addClient_29 : decode cX8_addClient 29 = .ok (.ireturn, 1) := by decide +kernel
theorem dX8_addWish_0 : decode cX8_addWish 0 = .ok (.aload_n 0, 1) := by decide +kernel
theorem dX8_addWish_1 : decode cX8_addWish 1 = .ok (.getfield 28, 3) := by decide +kernel
theorem dX8_addWish_4 : decode cX8_addWish 4 = .ok (.aload_n 0, 1) := by decide +kernel
theorem dX8_addWish_5 : decode cX8_addWish 5 = .ok (.getfield 38, 3) := by decide +kernel
theorem dX8_addWish_8 : decode cX8_addWish 8 = .ok (.iload_n 1, 1) := by decide +kernel
theorem dX8_addWish_9 : decode cX8_addWish 9 = .ok (.iastore, 1) := by decide +kernel
theorem dX8_addWish_10 : decode cX8_addWish 10 = .ok (.aload_n 0, 1) := by decide +kernel
theorem dX8_addWish_11 : decode cX8_addWish 11 = .ok (.getfield 31, 3) := by decide +kernel
theorem dX8_addWish_14 : decode cX8_addWish 14 = .ok (.aload_n 0, 1) := by decide +kernel
theorem dX8_addWish_15 : decode cX8_addWish 15 = .ok (.getfield 38, 3) := by decide +kernel
theorem dX8_addWish_18 : decode cX8_addWish 18 = .ok (.iload_n 2, 1) := by decide +kernel
theorem dX8_addWish_19 : decode cX8_addWish 19 = .ok (.iastore, 1) := by decide +kernel
theorem dX8_addWish_20 : decode cX8_addWish 20 = .ok (.aload_n 0, 1) := by decide +kernel
theorem dX8_addWish_21 : decode cX8_addWish 21 = .ok (.dup, 1) := by decide +kernel
theorem dX8_addWish_22 : decode cX8_addWish 22 = .ok (.getfield 38, 3) := by decide +kernel
theorem dX8_addWish_25 : decode cX8_addWish 25 = .ok (.iconst 1, 1) := by decide +kernel
theorem dX8_addWish_26 : decode cX8_addWish 26 = .ok (.iadd, 1) := by decide +kernel
theorem dX8_addWish_27 : decode cX8_addWish 27 = .ok (.putfield 38, 3) := by decide +kernel
theorem dX8_addWish_30 : decode cX8_addWish 30 = .ok (.aload_n 0, 1) := by decide +kernel
theorem dX8_addWish_31 : decode cX8_addWish 31 = .ok (.getfield 38, 3) := by decide +kernel
theorem dX8_addWish_34 : decode cX8_addWish 34 = .ok (.iconst 1, 1) := by decide +kernel
theorem dX8_addWish_35 : decode cX8_addWish 35 = .ok (.isub, 1) := by decide +kernel
theorem dX8_addWish_36 : decode cX8_addWish 36 = .ok (.ireturn, 1) := by decide +kernel
theorem dX8_removeWish_0 : decode cX8_removeWish 0 = .ok (.iload_n 1, 1) := by decide +kernel
theorem dX8_removeWish_1 : decode cX8_removeWish 1 = .ok (.istore_n 2, 1) := by decide +kernel
theorem dX8_removeWish_2 : decode cX8_removeWish 2 = .ok (.iload_n 2, 1) := by decide +kernel
theorem dX8_removeWish_3 : decode cX8_removeWish 3 = .ok (.aload_n 0, 1) := by decide +kernel
theorem dX8_removeWish_4 : decode cX8_removeWish 4 = .ok (.getfield 38, 3) := by decide +kernel
theorem dX8_removeWish_7 : decode cX8_removeWish 7 = .ok (.iconst 1, 1) := by decide +kernel
theorem dX8_removeWish_8 : decode cX8_removeWish 8 = .ok (.isub, 1) := by decide +kernel
theorem dX8_removeWish_9 : decode cX8_removeWish 9 = .ok (.if_icmp .ge 37, 3) := by decide +kernel
theorem dX8_removeWish_12 : decode cX8_removeWish 12 = .ok (.aload_n 0, 1) := by decide +kernel
theorem dX8_removeWish_13 : decode cX8_removeWish 13 = .ok (.getfield 28, 3) := by decide +kernel
theorem dX8_removeWish_16 : decode cX8_removeWish 16 = .ok (.iload_n 2, 1) := by decide +kernel
theorem dX8_removeWish_17 : decode cX8_removeWish 17 = .ok (.aload_n 0, 1) := by decide +kernel
theorem dX8_removeWish_18 : decode cX8_removeWish 18 = .ok (.getfield 28, 3) := by decide +kernel
theorem dX8_removeWish_21 : decode cX8_removeWish 21 = .ok (.iload_n 2, 1) := by decide +kernel
theorem dX8_removeWish_22 : decode cX8_removeWish 22 = .ok (.iconst 1, 1) := by decide +kernel
theorem dX8_removeWish_23 : decode cX8_removeWish 23 = .ok (.iadd, 1) := by decide +kernel
theorem dX8_removeWish_24 : decode cX8_removeWish 24 = .ok (.iaload, 1) := by decide +kernel
theorem dX8_removeWish_25 : decode cX8_removeWish 25 = .ok (.iastore, 1) := by decide +kernel
theorem dX8_removeWish_26 : decode cX8_removeWish 26 = .ok (.aload_n 0, 1) := by decide +kernel
theorem dX8_removeWish_27 : decode cX8_removeWish 27 = .ok (.getfield 31, 3) := by decide +kernel
theorem dX8_removeWish_30 : decode cX8_removeWish 30 = .ok (.iload_n 2, 1) := by decide +kernel
theorem dX8_removeWish_31 : decode cX8_removeWish 31 = .ok (.aload_n 0, 1) := by decide +kernel
theorem dX8_removeWish_32 : decode cX8_removeWish 32 = .ok (.getfield 31, 3) := by decide +kernel
theorem dX8_removeWish_35 : decode cX8_removeWish 35 = .ok (.iload_n 2, 1) := by decide +kernel
theorem dX8_removeWish_36 : decode cX8_removeWish 36 = .ok (.iconst 1, 1) := by decide +kernel
theorem dX8_removeWish_37 : decode cX8_removeWish 37 = .ok (.iadd, 1) := by decide +kernel
theorem dX8_removeWish_38 : decode cX8_removeWish 38 = .ok (.iaload, 1) := by decide +kernel
theorem dX8_removeWish_39 : decode cX8_removeWish 39 = .ok (.iastore, 1) := by decide +kernel
theorem dX8_removeWish_40 : decode cX8_removeWish 40 = .ok (.iinc 2 1, 3) := by decide +kernel
theorem dX8_removeWish_43 : decode cX8_removeWish 43 = .ok (.goto (-41), 3) := by decide +kernel
theorem dX8_removeWish_46 : decode cX8_removeWish 46 = .ok (.aload_n 0, 1) := by decide +kernel
theorem dX8_removeWish_47 : decode cX8_removeWish 47 = .ok (.dup, 1) := by decide +kernel
theorem dX8_removeWish_48 : decode cX8_removeWish 48 = .ok (.getfield 38, 3) := by decide +kernel
theorem dX8_removeWish_51 : decode cX8_removeWish 51 = .ok (.iconst 1, 1) := by decide +kernel
theorem dX8_removeWish_52 : decode cX8_removeWish 52 = .ok (.isub, 1) := by decide +kernel
theorem dX8_removeWish_53 : decode cX8_removeWish 53 = .ok (.putfield 38, 3) := by decide +kernel
theorem dX8_removeWish_56 : decode cX8_removeWish 56 = .ok (.return_, 1) := by decide +kernel
theorem dX8_removeLatestClient_0 : decode cX8_removeLatestClient 0 = .ok (.aload_n 0, 1) := by decide +kernel
theorem dX8_removeLatestClient_1 : decode cX8_removeLatestClient 1 = .ok (.dup, 1) := by decide +kernel
theorem dX8_removeLatestClient_2 : decode cX8_removeLatestClient 2 = .ok (.getfield 35, 3) := by decide +kernel
theorem dX8_removeLatestClient_5 : decode cX8_removeLatestClient 5 = .ok (.iconst 1, 1) := by decide +kernel
theorem dX8_removeLatestClient_6 : decode cX8_removeLatestClient 6 = .ok (.isub, 1) := by decide +kernel
theorem dX8_removeLatestClient_7 : decode cX8_removeLatestClient 7 = .ok (.putfield 35, 3) := by decide +kernel
theorem dX8_removeLatestClient_10 : decode cX8_removeLatestClient 10 = .ok (.aload_n 0, 1) := by decide +kernel
theorem dX8_removeLatestClient_11 : decode cX8_removeLatestClient 11 = .ok (.getfield 38, 3) := by decide +kernel
theorem dX8_removeLatestClient_14 : decode cX8_removeLatestClient 14 = .ok (.iconst 1, 1) := by decide +kernel
theorem dX8_removeLatestClient_15 : decode cX8_removeLatestClient 15 = .ok (.isub, 1) := by decide +kernel
theorem dX8_removeLatestClient_16 : decode cX8_removeLatestClient 16 = .ok (.istore_n 1, 1) := by decide +kernel
theorem dX8_removeLatestClient_17 : decode cX8_removeLatestClient 17 = .ok (.iload_n 1, 1) := by decide +kernel
theorem dX8_removeLatestClient_18 : decode cX8_removeLatestClient 18 = .ok (.ifCond .lt 27, 3) := by decide +kernel
theorem dX8_removeLatestClient_21 : decode cX8_removeLatestClient 21 = .ok (.aload_n 0, 1) := by decide +kernel
theorem dX8_removeLatestClient_22 : decode cX8_removeLatestClient 22 = .ok (.getfield 28, 3) := by decide +kernel
theorem dX8_removeLatestClient_25 : decode cX8_removeLatestClient 25 = .ok (.iload_n 1, 1) := by decide +kernel
theorem dX8_removeLatestClient_26 : decode cX8_removeLatestClient 26 = .ok (.iaload, 1) := by decide +kernel
theorem dX8_removeLatestClient_27 : decode cX8_removeLatestClient 27 = .ok (.aload_n 0, 1) := by decide +kernel
theorem dX8_removeLatestClient_28 : decode cX8_removeLatestClient 28 = .ok (.getfield 35, 3) := by decide +kernel
theorem dX8_removeLatestClient_31 : decode cX8_removeLatestClient 31 = .ok (.if_icmp .ne 8, 3) := by decide +kernel
theorem dX8_removeLatestClient_34 : decode cX8_removeLatestClient 34 = .ok (.aload_n 0, 1) := by decide +kernel
theorem dX8_removeLatestClient_35 : decode cX8_removeLatestClient 35 = .ok (.iload_n 1, 1) := by decide +kernel
theorem dX8_removeLatestClient_36 : decode cX8_removeLatestClient 36 = .ok (.invokevirtual 87, 3) := by decide +kernel
theorem dX8_removeLatestClient_39 : decode cX8_removeLatestClient 39 = .ok (.iinc 1 (-1), 3) := by decide +kernel
theorem dX8_removeLatestClient_42 : decode cX8_removeLatestClient 42 = .ok (.goto (-25), 3) := by decide +kernel
theorem dX8_removeLatestClient_45 : decode cX8_removeLatestClient 45 = .ok (.return_, 1) := by decide +kernel
theorem dX8_hand_0 : decode cX8_hand 0 = .ok (.iconst 0, 1) := by decide +kernel
theorem dX8_hand_1 : decode cX8_hand 1 = .ok (.istore_n 2, 1) := by decide +kernel
theorem dX8_hand_2 : decode cX8_hand 2 = .ok (.iload_n 2, 1) := by decide +kernel
theorem dX8_hand_3 : decode cX8_hand 3 = .ok (.aload_n 0, 1) := by decide +kernel
theorem dX8_hand_4 : decode cX8_hand 4 = .ok (.getfield 35, 3) := by decide +kernel
theorem dX8_hand_7 : decode cX8_hand 7 = .ok (.if_icmp .ge 33, 3) := by decide +kernel
theorem dX8_hand_10 : decode cX8_hand 10 = .ok (.aload_n 1, 1) := by decide +kernel
theorem dX8_hand_11 : decode cX8_hand 11 = .ok (.getfield 90, 3) := by decide +kernel
theorem dX8_hand_14 : decode cX8_hand 14 = .ok (.iload_n 2, 1) := by decide +kernel
theorem dX8_hand_15 : decode cX8_hand 15 = .ok (.invokestatic 75, 3) := by decide +kernel
theorem dX8_hand_18 : decode cX8_hand 18 = .ok (.ifCond .eq 16, 3) := by decide +kernel
theorem dX8_hand_21 : decode cX8_hand 21 = .ok (.aload_n 0, 1) := by decide +kernel
theorem dX8_hand_22 : decode cX8_hand 22 = .ok (.getfield 24, 3) := by decide +kernel
theorem dX8_hand_25 : decode cX8_hand 25 = .ok (.iload_n 2, 1) := by decide +kernel
theorem dX8_hand_26 : decode cX8_hand 26 = .ok (.aaload, 1) := by decide +kernel
theorem dX8_hand_27 : decode cX8_hand 27 = .ok (.aload_n 0, 1) := by decide +kernel
theorem dX8_hand_28 : decode cX8_hand 28 = .ok (.getfield 41, 3) := by decide +kernel
theorem dX8_hand_31 : decode cX8_hand 31 = .ok (.invokevirtual 95, 3) := by decide +kernel
theorem dX8_hand_34 : decode cX8_hand 34 = .ok (.iinc 2 1, 3) := by decide +kernel
theorem dX8_hand_37 : decode cX8_hand 37 = .ok (.goto (-35), 3) := by decide +kernel
theorem dX8_hand_40 : decode cX8_hand 40 = .ok (.aload_n 0, 1) := by decide +kernel
theorem dX8_hand_41 : decode cX8_hand 41 = .ok (.dup, 1) := by decide +kernel
theorem dX8_hand_42 : decode cX8_hand 42 = .ok (.getfield 41, 3) := by decide +kernel
theorem dX8_hand_45 : decode cX8_hand 45 = .ok (.iconst 1, 1) := by decide +kernel
theorem dX8_hand_46 : decode cX8_hand 46 = .ok (.iadd, 1) := by decide +kernel
theorem dX8_hand_47 : decode cX8_hand 47 = .ok (.putfield 41, 3) := by decide +kernel
theorem dX8_hand_50 : decode cX8_hand 50 = .ok (.aload_n 0, 1) := by decide +kernel
theorem dX8_hand_51 : decode cX8_hand 51 = .ok (.dup, 1) := by decide +kernel
theorem dX8_hand_52 : decode cX8_hand 52 = .ok (.getfield 44, 3) := by decide +kernel
theorem dX8_hand_55 : decode cX8_hand 55 = .ok (.aload_n 1, 1) := by decide +kernel
theorem dX8_hand_56 : decode cX8_hand 56 = .ok (.getfield 98, 3) := by decide +kernel
theorem dX8_hand_59 : decode cX8_hand 59 = .ok (.iadd, 1) := by decide +kernel
theorem dX8_hand_60 : decode cX8_hand 60 = .ok (.putfield 44, 3) := by decide +kernel
theorem dX8_hand_63 : decode cX8_hand 63 = .ok (.aload_n 0, 1) := by decide +kernel
theorem dX8_hand_64 : decode cX8_hand 64 = .ok (.dup, 1) := by decide +kernel
theorem dX8_hand_65 : decode cX8_hand 65 = .ok (.getfield 47, 3) := by decide +kernel
theorem dX8_hand_68 : decode cX8_hand 68 = .ok (.aload_n 1, 1) := by decide +kernel
theorem dX8_hand_69 : decode cX8_hand 69 = .ok (.getfield 101, 3) := by decide +kernel
theorem dX8_hand_72 : decode cX8_hand 72 = .ok (.invokestatic 104, 3) := by decide +kernel
theorem dX8_hand_75 : decode cX8_hand 75 = .ok (.iadd, 1) := by decide +kernel
theorem dX8_hand_76 : decode cX8_hand 76 = .ok (.putfield 47, 3) := by decide +kernel
theorem dX8_hand_79 : decode cX8_hand 79 = .ok (.return_, 1) := by decide +kernel
theorem dX9_init_0 : decode cX9_init 0 = .ok (.aload_n 0, 1) := by decide +kernel
theorem dX9_init_1 : decode cX9_init 1 = .ok (.invokespecial 3, 3) := by decide +kernel
theorem dX9_init_4 : decode cX9_init 4 = .ok (.aload_n 0, 1) := by decide +kernel
theorem dX9_init_5 : decode cX9_init 5 = .ok (.bipush 7, 2) := by decide +kernel
theorem dX9_init_7 : decode cX9_init 7 = .ok (.anewarray 9, 3) := by decide +kernel
theorem dX9_init_10 : decode cX9_init 10 = .ok (.putfield 11, 3) := by decide +kernel
theorem dX9_init_13 : decode cX9_init 13 = .ok (.aload_n 0, 1) := by decide +kernel
theorem dX9_init_14 : decode cX9_init 14 = .ok (.bipush 7, 2) := by decide +kernel
theorem dX9_init_16 : decode cX9_init 16 = .ok (.anewarray 9, 3) := by decide +kernel
theorem dX9_init_19 : decode cX9_init 19 = .ok (.putfield 17, 3) := by decide +kernel
theorem dX9_init_22 : decode cX9_init 22 = .ok (.iconst 0, 1) := by decide +kernel
theorem dX9_init_23 : decode cX9_init 23 = .ok (.istore_n 1, 1) := by decide +kernel
theorem dX9_init_24 : decode cX9_init 24 = .ok (.iload_n 1, 1) := by decide +kernel
theorem dX9_init_25 : decode cX9_init 25 = .ok (.bipush 7, 2) := by decide +kernel
theorem dX9_init_27 : decode cX9_init 27 = .ok (.if_icmp .ge 35, 3) := by decide +kernel
theorem dX9_init_30 : decode cX9_init 30 = .ok (.aload_n 0, 1) := by decide +kernel
theorem dX9_init_31 : decode cX9_init 31 = .ok (.getfield 11, 3) := by decide +kernel
theorem dX9_init_34 : decode cX9_init 34 = .ok (.iload_n 1, 1) := by decide +kernel
theorem dX9_init_35 : decode cX9_init 35 = .ok (.new 9, 3) := by decide +kernel
theorem dX9_init_38 : decode cX9_init 38 = .ok (.dup, 1) := by decide +kernel
theorem dX9_init_39 : decode cX9_init 39 = .ok (.invokespecial 20, 3) := by decide +kernel
theorem dX9_init_42 : decode cX9_init 42 = .ok (.aastore, 1) := by decide +kernel
theorem dX9_init_43 : decode cX9_init 43 = .ok (.aload_n 0, 1) := by decide +kernel
theorem dX9_init_44 : decode cX9_init 44 = .ok (.getfield 17, 3) := by decide +kernel
theorem dX9_init_47 : decode cX9_init 47 = .ok (.iload_n 1, 1) := by decide +kernel
theorem dX9_init_48 : decode cX9_init 48 = .ok (.new 9, 3) := by decide +kernel
theorem dX9_init_51 : decode cX9_init 51 = .ok (.dup, 1) := by decide +kernel
theorem dX9_init_52 : decode cX9_init 52 = .ok (.invokespecial 20, 3) := by decide +kernel
theorem dX9_init_55 : decode cX9_init 55 = .ok (.aastore, 1) := by decide +kernel
theorem dX9_init_56 : decode cX9_init 56 = .ok (.iinc 1 1, 3) := by decide +kernel
theorem dX9_init_59 : decode cX9_init 59 = .ok (.goto (-35), 3) := by decide +kernel
theorem dX9_init_62 : decode cX9_init 62 = .ok (.return_, 1) := by decide +kernel
theorem dX9_outdate_0 : decode cX9_outdate 0 = .ok (.aload_n 0, 1) := by decide +kernel
theorem dX9_outdate_1 : decode cX9_outdate 1 = .ok (.iconst 0, 1) := by decide +kernel
theorem dX9_outdate_2 : decode cX9_outdate 2 = .ok (.putfield 21, 3) := by decide +kernel
theorem dX9_outdate_5 : decode cX9_outdate 5 = .ok (.return_, 1) := by decide +kernel
theorem dX9_between_0 : decode cX9_between 0 = .ok (.aload_n 1, 1) := by decide +kernel
theorem dX9_between_1 : decode cX9_between 1 = .ok (.getfield 25, 3) := by decide +kernel
theorem dX9_between_4 : decode cX9_between 4 = .ok (.iload_n 2, 1) := by decide +kernel
theorem dX9_between_5 : decode cX9_between 5 = .ok (.iaload, 1) := by decide +kernel
theorem dX9_between_6 : decode cX9_between 6 = .ok (.iload_n 3, 1) := by decide +kernel
theorem dX9_between_7 : decode cX9_between 7 = .ok (.if_icmp .ne 12, 3) := by decide +kernel
theorem dX9_between_10 : decode cX9_between 10 = .ok (.aload_n 0, 1) := by decide +kernel
theorem dX9_between_11 : decode cX9_between 11 = .ok (.getfield 11, 3) := by decide +kernel
theorem dX9_between_14 : decode cX9_between 14 = .ok (.iload_n 2, 1) := by decide +kernel
theorem dX9_between_15 : decode cX9_between 15 = .ok (.aaload, 1) := by decide +kernel
theorem dX9_between_16 : decode cX9_between 16 = .ok (.goto 9, 3) := by decide +kernel
theorem dX9_between_19 : decode cX9_between 19 = .ok (.aload_n 0, 1) := by decide +kernel
theorem dX9_between_20 : decode cX9_between 20 = .ok (.getfield 17, 3) := by decide +kernel
theorem dX9_between_23 : decode cX9_between 23 = .ok (.iload_n 3, 1) := by decide +kernel
theorem dX9_between_24 : decode cX9_between 24 = .ok (.aaload, 1) := by decide +kernel
theorem dX9_between_25 : decode cX9_between 25 = .ok (.areturn, 1) := by decide +kernel
theorem dX9_countAll_0 : decode cX9_countAll 0 = .ok (.iconst 0, 1) := by decide +kernel
theorem dX9_countAll_1 : decode cX9_countAll 1 = .ok (.istore_n 2, 1) := by decide +kernel
theorem dX9_countAll_2 : decode cX9_countAll 2 = .ok (.iconst 1, 1) := by decide +kernel
theorem dX9_countAll_3 : decode cX9_countAll 3 = .ok (.istore_n 3, 1) := by decide +kernel
theorem dX9_countAll_4 : decode cX9_countAll 4 = .ok (.iload_n 3, 1) := by decide +kernel
theorem dX9_countAll_5 : decode cX9_countAll 5 = .ok (.aload_n 1, 1) := by decide +kernel
theorem dX9_countAll_6 : decode cX9_countAll 6 = .ok (.getfield 31, 3) := by decide +kernel
theorem dX9_countAll_9 : decode cX9_countAll 9 = .ok (.if_icmp .ge 31, 3) := by decide +kernel
theorem dX9_countAll_12 : decode cX9_countAll 12 = .ok (.iload_n 2, 1) := by decide +kernel
theorem dX9_countAll_13 : decode cX9_countAll 13 = .ok (.aload_n 0, 1) := by decide +kernel
theorem dX9_countAll_14 : decode cX9_countAll 14 = .ok (.getfield 11, 3) := by decide +kernel
theorem dX9_countAll_17 : decode cX9_countAll 17 = .ok (.iload_n 3, 1) := by decide +kernel
theorem dX9_countAll_18 : decode cX9_countAll 18 = .ok (.aaload, 1) := by decide +kernel
theorem dX9_countAll_19 : decode cX9_countAll 19 = .ok (.getfield 35, 3) := by decide +kernel
theorem dX9_countAll_22 : decode cX9_countAll 22 = .ok (.aload_n 0, 1) := by decide +kernel
theorem dX9_countAll_23 : decode cX9_countAll 23 = .ok (.getfield 17, 3) := by decide +kernel
theorem dX9_countAll_26 : decode cX9_countAll 26 = .ok (.iload_n 3, 1) := by decide +kernel
theorem dX9_countAll_27 : decode cX9_countAll 27 = .ok (.aaload, 1) := by decide +kernel
theorem dX9_countAll_28 : decode cX9_countAll 28 = .ok (.getfield 35, 3) := by decide +kernel
theorem dX9_countAll_31 : decode cX9_countAll 31 = .ok (.iadd, 1) := by decide +kernel
theorem dX9_countAll_32 : decode cX9_countAll 32 = .ok (.iadd, 1) := by decide +kernel
theorem dX9_countAll_33 : decode cX9_countAll 33 = .ok (.istore_n 2, 1) := by decide +kernel
theorem dX9_countAll_34 : decode cX9_countAll 34 = .ok (.iinc 3 1, 3) := by decide +kernel
theorem dX9_countAll_37 : decode cX9_countAll 37 = .ok (.goto (-33), 3) := by decide +kernel
theorem dX9_countAll_40 : decode cX9_countAll 40 = .ok (.iload_n 2, 1) := by decide +kernel
theorem dX9_countAll_41 : decode cX9_countAll 41 = .ok (.ireturn, 1) := by decide +kernel
theorem dX9_refresh_0 : decode cX9_refresh 0 = .ok (.aload_n 0, 1) := by decide +kernel
theorem dX9_refresh_1 : decode cX9_refresh 1 = .ok (.getfield 21, 3) := by decide +kernel
theorem dX9_refresh_4 : decode cX9_refresh 4 = .ok (.ifCond .eq 4, 3) := by decide +kernel
theorem dX9_refresh_7 : decode cX9_refresh 7 = .ok (.return_, 1) := by decide +kernel
theorem dX9_refresh_8 : decode cX9_refresh 8 = .ok (.aload_n 1, 1) := by decide +kernel
theorem dX9_refresh_9 : decode cX9_refresh 9 = .ok (.getfield 31, 3) := by decide +kernel
theorem dX9_refresh_12 : decode cX9_refresh 12 = .ok (.iconst 1, 1) := by decide +kernel
theorem dX9_refresh_13 : decode cX9_refresh 13 = .ok (.isub, 1) := by decide +kernel
theorem dX9_refresh_14 : decode cX9_refresh 14 = .ok (.istore_n 2, 1) := by decide +kernel
theorem dX9_refresh_15 : decode cX9_refresh 15 = .ok (.iload_n 2, 1) := by decide +kernel
theorem dX9_refresh_16 : decode cX9_refresh 16 = .ok (.ifCond .le 21, 3) := by decide +kernel
theorem dX9_refresh_19 : decode cX9_refresh 19 = .ok (.aload_n 0, 1) := by decide +kernel
theorem dX9_refresh_20 : decode cX9_refresh 20 = .ok (.aload_n 1, 1) := by decide +kernel
theorem dX9_refresh_21 : decode cX9_refresh 21 = .ok (.iload_n 2, 1) := by decide +kernel
theorem dX9_refresh_22 : decode cX9_refresh 22 = .ok (.aload_n 1, 1) := by decide +kernel
theorem dX9_refresh_23 : decode cX9_refresh 23 = .ok (.getfield 25, 3) := by decide +kernel
theorem dX9_refresh_26 : decode cX9_refresh 26 = .ok (.iload_n 2, 1) := by decide +kernel
theorem dX9_refresh_27 : decode cX9_refresh 27 = .ok (.iaload, 1) := by decide +kernel
theorem dX9_refresh_28 : decode cX9_refresh 28 = .ok (.invokevirtual 38, 3) := by decide +kernel
theorem dX9_refresh_31 : decode cX9_refresh 31 = .ok (.iinc 2 (-1), 3) := by decide +kernel
theorem dX9_refresh_34 : decode cX9_refresh 34 = .ok (.goto (-19), 3) := by decide +kernel
theorem dX9_refresh_37 : decode cX9_refresh 37 = .ok (.iconst 1, 1) := by decide +kernel
theorem dX9_refresh_38 : decode cX9_refresh 38 = .ok (.istore_n 2, 1) := by decide +kernel
theorem dX9_refresh_39 : decode cX9_refresh 39 = .ok (.iload_n 2, 1) := by decide +kernel
theorem dX9_refresh_40 : decode cX9_refresh 40 = .ok (.aload_n 1, 1) := by decide +kernel
theorem dX9_refresh_41 : decode cX9_refresh 41 = .ok (.getfield 31, 3) := by decide +kernel
theorem dX9_refresh_44 : decode cX9_refresh 44 = .ok (.if_icmp .ge 21, 3) := by decide +kernel
theorem dX9_refresh_47 : decode cX9_refresh 47 = .ok (.aload_n 0, 1) := by decide +kernel
theorem dX9_refresh_48 : decode cX9_refresh 48 = .ok (.aload_n 1, 1) := by decide +kernel
theorem dX9_refresh_49 : decode cX9_refresh 49 = .ok (.aload_n 1, 1) := by decide +kernel
theorem dX9_refresh_50 : decode cX9_refresh 50 = .ok (.getfield 25, 3) := by decide +kernel
theorem dX9_refresh_53 : decode cX9_refresh 53 = .ok (.iload_n 2, 1) := by decide +kernel
theorem dX9_refresh_54 : decode cX9_refresh 54 = .ok (.iaload, 1) := by decide +kernel
theorem dX9_refresh_55 : decode cX9_refresh 55 = .ok (.iload_n 2, 1) := by decide +kernel
theorem dX9_refresh_56 : decode cX9_refresh 56 = .ok (.invokevirtual 38, 3) := by decide +kernel
theorem dX9_refresh_59 : decode cX9_refresh 59 = .ok (.iinc 2 1, 3) := by decide +kernel
theorem dX9_refresh_62 : decode cX9_refresh 62 = .ok (.goto (-23), 3) := by decide +kernel
theorem dX9_refresh_65 : decode cX9_refresh 65 = .ok (.aload_n 0, 1) := by decide +kernel
theorem dX9_refresh_66 : decode cX9_refresh 66 = .ok (.iconst 1, 1) := by decide +kernel
theorem dX9_refresh_67 : decode cX9_refresh 67 = .ok (.putfield 21, 3) := by decide +kernel
theorem dX9_refresh_70 : decode cX9_refresh 70 = .ok (.return_, 1) := by decide +kernel
theorem dX9_gather_0 : decode cX9_gather 0 = .ok (.aload_n 0, 1) := by decide +kernel
theorem dX9_gather_1 : decode cX9_gather 1 = .ok (.aload_n 1, 1) := by decide +kernel
theorem dX9_gather_2 : decode cX9_gather 2 = .ok (.iload_n 2, 1) := by decide +kernel
theorem dX9_gather_3 : decode cX9_gather 3 = .ok (.iload_n 3, 1) := by decide +kernel
theorem dX9_gather_4 : decode cX9_gather 4 = .ok (.invokevirtual 42, 3) := by decide +kernel
theorem dX9_gather_7 : decode cX9_gather 7 = .ok (.astore 4, 2) := by decide +kernel
theorem dX9_gather_9 : decode cX9_gather 9 = .ok (.aload 4, 2) := by decide +kernel
theorem dX9_gather_11 : decode cX9_gather 11 = .ok (.iconst 0, 1) := by decide +kernel
theorem dX9_gather_12 : decode cX9_gather 12 = .ok (.putfield 35, 3) := by decide +kernel
theorem dX9_gather_15 : decode cX9_gather 15 = .ok (.aload_n 1, 1) := by decide +kernel
theorem dX9_gather_16 : decode cX9_gather 16 = .ok (.aload_n 1, 1) := by decide +kernel
theorem dX9_gather_17 : decode cX9_gather 17 = .ok (.iload_n 2, 1) := by decide +kernel
theorem dX9_gather_18 : decode cX9_gather 18 = .ok (.invokevirtual 46, 3) := by decide +kernel
theorem dX9_gather_21 : decode cX9_gather 21 = .ok (.invokevirtual 50, 3) := by decide +kernel
theorem dX9_gather_24 : decode cX9_gather 24 = .ok (.istore 5, 2) := by decide +kernel
theorem dX9_gather_26 : decode cX9_gather 26 = .ok (.iconst 0, 1) := by decide +kernel
theorem dX9_gather_27 : decode cX9_gather 27 = .ok (.istore 6, 2) := by decide +kernel
theorem dX9_gather_29 : decode cX9_gather 29 = .ok (.iload 6, 2) := by decide +kernel
theorem dX9_gather_31 : decode cX9_gather 31 = .ok (.aload_n 1, 1) := by decide +kernel
theorem dX9_gather_32 : decode cX9_gather 32 = .ok (.getfield 53, 3) := by decide +kernel
theorem dX9_gather_35 : decode cX9_gather 35 = .ok (.if_icmp .ge 31, 3) := by decide +kernel
theorem dX9_gather_38 : decode cX9_gather 38 = .ok (.iload 5, 2) := by decide +kernel
theorem dX9_gather_40 : decode cX9_gather 40 = .ok (.iload 6, 2) := by decide +kernel
theorem dX9_gather_42 : decode cX9_gather 42 = .ok (.invokestatic 56, 3) := by decide +kernel
theorem dX9_gather_45 : decode cX9_gather 45 = .ok (.ifCond .eq 15, 3) := by decide +kernel
theorem dX9_gather_48 : decode cX9_gather 48 = .ok (.aload 4, 2) := by decide +kernel
theorem dX9_gather_50 : decode cX9_gather 50 = .ok (.aload_n 1, 1) := by decide +kernel
theorem dX9_gather_51 : decode cX9_gather 51 = .ok (.getfield 60, 3) := by decide +kernel
theorem dX9_gather_54 : decode cX9_gather 54 = .ok (.iload 6, 2) := by decide +kernel
theorem dX9_gather_56 : decode cX9_gather 56 = .ok (.iaload, 1) := by decide +kernel
theorem dX9_gather_57 : decode cX9_gather 57 = .ok (.invokevirtual 63, 3) := by decide +kernel
theorem dX9_gather_60 : decode cX9_gather 60 = .ok (.iinc 6 1, 3) := by decide +kernel
theorem dX9_gather_63 : decode cX9_gather 63 = .ok (.goto (-34), 3) := by decide +kernel
theorem dX9_gather_66 : decode cX9_gather 66 = .ok (.iconst 0, 1) := by decide +kernel
theorem dX9_gather_67 : decode cX9_gather 67 = .ok (.istore 6, 2) := by decide +kernel
theorem dX9_gather_69 : decode cX9_gather 69 = .ok (.iload 6, 2) := by decide +kernel
theorem dX9_gather_71 : decode cX9_gather 71 = .ok (.aload_n 1, 1) := by decide +kernel
theorem dX9_gather_72 : decode cX9_gather 72 = .ok (.getfield 31, 3) := by decide +kernel
theorem dX9_gather_75 : decode cX9_gather 75 = .ok (.if_icmp .ge 70, 3) := by decide +kernel
theorem dX9_gather_78 : decode cX9_gather 78 = .ok (.iload 6, 2) := by decide +kernel
theorem dX9_gather_80 : decode cX9_gather 80 = .ok (.iload_n 3, 1) := by decide +kernel
theorem dX9_gather_81 : decode cX9_gather 81 = .ok (.if_icmp .eq 58, 3) := by decide +kernel
theorem dX9_gather_84 : decode cX9_gather 84 = .ok (.aload_n 1, 1) := by decide +kernel
theorem dX9_gather_85 : decode cX9_gather 85 = .ok (.iload 6, 2) := by decide +kernel
theorem dX9_gather_87 : decode cX9_gather 87 = .ok (.iload_n 2, 1) := by decide +kernel
theorem dX9_gather_88 : decode cX9_gather 88 = .ok (.invokevirtual 67, 3) := by decide +kernel
theorem dX9_gather_91 : decode cX9_gather 91 = .ok (.ifCond .ne 6, 3) := by decide +kernel
theorem dX9_gather_94 : decode cX9_gather 94 = .ok (.goto 45, 3) := by decide +kernel
theorem dX9_gather_97 : decode cX9_gather 97 = .ok (.aload_n 0, 1) := by decide +kernel
theorem dX9_gather_98 : decode cX9_gather 98 = .ok (.aload_n 1, 1) := by decide +kernel
theorem dX9_gather_99 : decode cX9_gather 99 = .ok (.iload 6, 2) := by decide +kernel
theorem dX9_gather_101 : decode cX9_gather 101 = .ok (.iload_n 2, 1) := by decide +kernel
theorem dX9_gather_102 : decode cX9_gather 102 = .ok (.invokevirtual 42, 3) := by decide +kernel
theorem dX9_gather_105 : decode cX9_gather 105 = .ok (.astore 7, 2) := by decide +kernel
theorem dX9_gather_107 : decode cX9_gather 107 = .ok (.iconst 0, 1) := by decide +kernel
theorem dX9_gather_108 : decode cX9_gather 108 = .ok (.istore 8, 2) := by decide +kernel
theorem dX9_gather_110 : decode cX9_gather 110 = .ok (.iload 8, 2) := by decide +kernel
theorem dX9_gather_112 : decode cX9_gather 112 = .ok (.aload 7, 2) := by decide +kernel
theorem dX9_gather_114 : decode cX9_gather 114 = .ok (.getfield 35, 3) := by decide +kernel
theorem dX9_gather_117 : decode cX9_gather 117 = .ok (.if_icmp .ge 22, 3) := by decide +kernel
theorem dX9_gather_120 : decode cX9_gather 120 = .ok (.aload 4, 2) := by decide +kernel
theorem dX9_gather_122 : decode cX9_gather 122 = .ok (.aload 7, 2) := by decide +kernel
theorem dX9_gather_124 : decode cX9_gather 124 = .ok (.getfield 70, 3) := by decide +kernel
theorem dX9_gather_127 : decode cX9_gather 127 = .ok (.iload 8, 2) := by decide +kernel
theorem dX9_gather_129 : decode cX9_gather 129 = .ok (.iaload, 1) := by decide +kernel
theorem dX9_gather_130 : decode cX9_gather 130 = .ok (.invokevirtual 63, 3) := by decide +kernel
theorem dX9_gather_133 : decode cX9_gather 133 = .ok (.iinc 8 1, 3) := by decide +kernel
theorem dX9_gather_136 : decode cX9_gather 136 = .ok (.goto (-26), 3) := by decide +kernel
theorem dX9_gather_139 : decode cX9_gather 139 = .ok (.iinc 6 1, 3) := by decide +kernel
theorem dX9_gather_142 : decode cX9_gather 142 = .ok (.goto (-73), 3) := by decide +kernel
theorem dX9_gather_145 : decode cX9_gather 145 = .ok (.iconst 0, 1) := by decide +kernel
theorem dX9_gather_146 : decode cX9_gather 146 = .ok (.istore 6, 2) := by decide +kernel
theorem dX9_gather_148 : decode cX9_gather 148 = .ok (.iload 6, 2) := by decide +kernel
theorem dX9_gather_150 : decode cX9_gather 150 = .ok (.bipush 12, 2) := by decide +kernel
theorem dX9_gather_152 : decode cX9_gather 152 = .ok (.if_icmp .ge 31, 3) := by decide +kernel
theorem dX9_gather_155 : decode cX9_gather 155 = .ok (.aload 4, 2) := by decide +kernel
theorem dX9_gather_157 : decode cX9_gather 157 = .ok (.getfield 35, 3) := by decide +kernel
theorem dX9_gather_160 : decode cX9_gather 160 = .ok (.aload_n 1, 1) := by decide +kernel
theorem dX9_gather_161 : decode cX9_gather 161 = .ok (.getfield 73, 3) := by decide +kernel
theorem dX9_gather_164 : decode cX9_gather 164 = .ok (.if_icmp .le 19, 3) := by decide +kernel
theorem dX9_gather_167 : decode cX9_gather 167 = .ok (.aload 4, 2) := by decide +kernel
theorem dX9_gather_169 : decode cX9_gather 169 = .ok (.aload 4, 2) := by decide +kernel
theorem dX9_gather_171 : decode cX9_gather 171 = .ok (.invokevirtual 76, 3) := by decide +kernel
theorem dX9_gather_174 : decode cX9_gather 174 = .ok (.invokevirtual 63, 3) := by decide +kernel
theorem dX9_gather_177 : decode cX9_gather 177 = .ok (.iinc 6 1, 3) := by decide +kernel
theorem dX9_gather_180 : decode cX9_gather 180 = .ok (.goto (-32), 3) := by decide +kernel
theorem dX9_gather_183 : decode cX9_gather 183 = .ok (.return_, 1) := by decide +kernel
end
section
theorem dX10_init_0 : decode cX10_init 0 = .ok (.aload_n 0, 1) := by decide +kernel
theorem dX10_init_1 : decode cX10_init 1 = .ok (.invokespecial 1, 3) := by decide +kernel
theorem dX10_init_4 : decode cX10_init 4 = .ok (.aload_n 0, 1) := by decide +kernel
theorem dX10_init_5 : decode cX10_init 5 = .ok (.new 7, 3) := by decide +kernel
theorem dX10_init_8 : decode cX10_init 8 = .ok (.dup, 1) := by decide +kernel
theorem dX10_init_9 : decode cX10_init 9 = .ok (.invokespecial 9, 3) := by decide +kernel
theorem dX10_init_12 : decode cX10_init 12 = .ok (.putfield 10, 3) := by decide +kernel
theorem dX10_init_15 : decode cX10_init 15 = .ok (.aload_n 0, 1) := by decide +kernel
theorem dX10_init_16 : decode cX10_init 16 = .ok (.new 16, 3) := by decide +kernel
theorem dX10_init_19 : decode cX10_init 19 = .ok (.dup, 1) := by decide +kernel
theorem dX10_init_20 : decode cX10_init 20 = .ok (.invokespecial 18, 3) := by decide +kernel
theorem dX10_init_23 : decode cX10_init 23 = .ok (.putfield 19, 3) := by decide +kernel
theorem dX10_init_26 : decode cX10_init 26 = .ok (.aload_n 0, 1) := by decide +kernel
theorem dX10_init_27 : decode cX10_init 27 = .ok (.new 23, 3) := by decide +kernel
theorem dX10_init_30 : decode cX10_init 30 = .ok (.dup, 1) := by decide +kernel
theorem dX10_init_31 : decode cX10_init 31 = .ok (.invokespecial 25, 3) := by decide +kernel
theorem dX10_init_34 : decode cX10_init 34 = .ok (.putfield 26, 3) := by decide +kernel
theorem dX10_init_37 : decode cX10_init 37 = .ok (.aload_n 0, 1) := by decide +kernel
theorem dX10_init_38 : decode cX10_init 38 = .ok (.new 30, 3) := by decide +kernel
theorem dX10_init_41 : decode cX10_init 41 = .ok (.dup, 1) := by decide +kernel
theorem dX10_init_42 : decode cX10_init 42 = .ok (.invokespecial 32, 3) := by decide +kernel
theorem dX10_init_45 : decode cX10_init 45 = .ok (.putfield 33, 3) := by decide +kernel
theorem dX10_init_48 : decode cX10_init 48 = .ok (.aload_n 0, 1) := by decide +kernel
theorem dX10_init_49 : decode cX10_init 49 = .ok (.new 37, 3) := by decide +kernel
theorem dX10_init_52 : decode cX10_init 52 = .ok (.dup, 1) := by decide +kernel
theorem dX10_init_53 : decode cX10_init 53 = .ok (.invokespecial 39, 3) := by decide +kernel
theorem dX10_init_56 : decode cX10_init 56 = .ok (.putfield 40, 3) := by decide +kernel
theorem dX10_init_59 : decode cX10_init 59 = .ok (.aload_n 0, 1) := by decide +kernel
theorem dX10_init_60 : decode cX10_init 60 = .ok (.new 44, 3) := by decide +kernel
theorem dX10_init_63 : decode cX10_init 63 = .ok (.dup, 1) := by decide +kernel
theorem dX10_init_64 : decode cX10_init 64 = .ok (.invokespecial 46, 3) := by decide +kernel
theorem dX10_init_67 : decode cX10_init 67 = .ok (.putfield 47, 3) := by decide +kernel
theorem dX10_init_70 : decode cX10_init 70 = .ok (.aload_n 0, 1) := by decide +kernel
theorem dX10_init_71 : decode cX10_init 71 = .ok (.iconst 2, 1) := by decide +kernel
theorem dX10_init_72 : decode cX10_init 72 = .ok (.anewarray 51, 3) := by decide +kernel
theorem dX10_init_75 : decode cX10_init 75 = .ok (.putfield 53, 3) := by decide +kernel
theorem dX10_init_78 : decode cX10_init 78 = .ok (.iconst 0, 1) := by decide +kernel
theorem dX10_init_79 : decode cX10_init 79 = .ok (.istore_n 1, 1) := by decide +kernel
theorem dX10_init_80 : decode cX10_init 80 = .ok (.iload_n 1, 1) := by decide +kernel
theorem dX10_init_81 : decode cX10_init 81 = .ok (.iconst 2, 1) := by decide +kernel
theorem dX10_init_82 : decode cX10_init 82 = .ok (.if_icmp .ge 22, 3) := by decide +kernel
theorem dX10_init_85 : decode cX10_init 85 = .ok (.aload_n 0, 1) := by decide +kernel
theorem dX10_init_86 : decode cX10_init 86 = .ok (.getfield 53, 3) := by decide +kernel
theorem dX10_init_89 : decode cX10_init 89 = .ok (.iload_n 1, 1) := by decide +kernel
theorem dX10_init_90 : decode cX10_init 90 = .ok (.new 51, 3) := by decide +kernel
theorem dX10_init_93 : decode cX10_init 93 = .ok (.dup, 1) := by decide +kernel
theorem dX10_init_94 : decode cX10_init 94 = .ok (.invokespecial 57, 3) := by decide +kernel
theorem dX10_init_97 : decode cX10_init 97 = .ok (.aastore, 1) := by decide +kernel
theorem dX10_init_98 : decode cX10_init 98 = .ok (.iinc 1 1, 3) := by decide +kernel
theorem dX10_init_101 : decode cX10_init 101 = .ok (.goto (-21), 3) := by decide +kernel
theorem dX10_init_104 : decode cX10_init 104 = .ok (.return_, 1) := by decide +kernel
theorem dX10_told_0 : decode cX10_told 0 = .ok (.iload_n 1, 1) := by decide +kernel
theorem dX10_told_1 : decode cX10_told 1 = .ok (.tableswitch 178 0 11 #[63, 71, 79, 87, 95, 103, 126, 134, 142, 150, 162, 170], 63) := by decide +kernel
theorem dX10_told_64 : decode cX10_told 64 = .ok (.aload_n 0, 1) := by decide +kernel
theorem dX10_told_65 : decode cX10_told 65 = .ok (.getfield 10, 3) := by decide +kernel
theorem dX10_told_68 : decode cX10_told 68 = .ok (.getfield 58, 3) := by decide +kernel
theorem dX10_told_71 : decode cX10_told 71 = .ok (.ireturn, 1) := by decide +kernel
theorem dX10_told_72 : decode cX10_told 72 = .ok (.aload_n 0, 1) := by decide +kernel
theorem dX10_told_73 : decode cX10_told 73 = .ok (.getfield 10, 3) := by decide +kernel
theorem dX10_told_76 : decode cX10_told 76 = .ok (.getfield 62, 3) := by decide +kernel
theorem dX10_told_79 : decode cX10_told 79 = .ok (.ireturn, 1) := by decide +kernel
theorem dX10_told_80 : decode cX10_told 80 = .ok (.aload_n 0, 1) := by decide +kernel
theorem dX10_told_81 : decode cX10_told 81 = .ok (.getfield 10, 3) := by decide +kernel
theorem dX10_told_84 : decode cX10_told 84 = .ok (.getfield 65, 3) := by decide +kernel
theorem dX10_told_87 : decode cX10_told 87 = .ok (.ireturn, 1) := by decide +kernel
theorem dX10_told_88 : decode cX10_told 88 = .ok (.aload_n 0, 1) := by decide +kernel
theorem dX10_told_89 : decode cX10_told 89 = .ok (.getfield 10, 3) := by decide +kernel
theorem dX10_told_92 : decode cX10_told 92 = .ok (.getfield 68, 3) := by decide +kernel
theorem dX10_told_95 : decode cX10_told 95 = .ok (.ireturn, 1) := by decide +kernel
theorem dX10_told_96 : decode cX10_told 96 = .ok (.aload_n 0, 1) := by decide +kernel
theorem dX10_told_97 : decode cX10_told 97 = .ok (.getfield 10, 3) := by decide +kernel
theorem dX10_told_100 : decode cX10_told 100 = .ok (.getfield 71, 3) := by decide +kernel
theorem dX10_told_103 : decode cX10_told 103 = .ok (.ireturn, 1) := by decide +kernel
theorem dX10_told_104 : decode cX10_told 104 = .ok (.aload_n 0, 1) := by decide +kernel
theorem dX10_told_105 : decode cX10_told 105 = .ok (.getfield 19, 3) := by decide +kernel
theorem dX10_told_108 : decode cX10_told 108 = .ok (.aload_n 0, 1) := by decide +kernel
theorem dX10_told_109 : decode cX10_told 109 = .ok (.getfield 10, 3) := by decide +kernel
theorem dX10_told_112 : decode cX10_told 112 = .ok (.invokevirtual 74, 3) := by decide +kernel
theorem dX10_told_115 : decode cX10_told 115 = .ok (.aload_n 0, 1) := by decide +kernel
theorem dX10_told_116 : decode cX10_told 116 = .ok (.getfield 19, 3) := by decide +kernel
theorem dX10_told_119 : decode cX10_told 119 = .ok (.aload_n 0, 1) := by decide +kernel
theorem dX10_told_120 : decode cX10_told 120 = .ok (.getfield 10, 3) := by decide +kernel
theorem dX10_told_123 : decode cX10_told 123 = .ok (.invokevirtual 78, 3) := by decide +kernel
theorem dX10_told_126 : decode cX10_told 126 = .ok (.ireturn, 1) := by decide +kernel
theorem dX10_told_127 : decode cX10_told 127 = .ok (.aload_n 0, 1) := by decide +kernel
theorem dX10_told_128 : decode cX10_told 128 = .ok (.getfield 10, 3) := by decide +kernel
theorem dX10_told_131 : decode cX10_told 131 = .ok (.getfield 82, 3) := by decide +kernel
theorem dX10_told_134 : decode cX10_told 134 = .ok (.ireturn, 1) := by decide +kernel
theorem dX10_told_135 : decode cX10_told 135 = .ok (.aload_n 0, 1) := by decide +kernel
theorem dX10_told_136 : decode cX10_told 136 = .ok (.getfield 10, 3) := by decide +kernel
theorem dX10_told_139 : decode cX10_told 139 = .ok (.getfield 85, 3) := by decide +kernel
theorem dX10_told_142 : decode cX10_told 142 = .ok (.ireturn, 1) := by decide +kernel
theorem dX10_told_143 : decode cX10_told 143 = .ok (.aload_n 0, 1) := by decide +kernel
theorem dX10_told_144 : decode cX10_told 144 = .ok (.getfield 40, 3) := by decide +kernel
theorem dX10_told_147 : decode cX10_told 147 = .ok (.getfield 88, 3) := by decide +kernel
theorem dX10_told_150 : decode cX10_told 150 = .ok (.ireturn, 1) := by decide +kernel
theorem dX10_told_151 : decode cX10_told 151 = .ok (.aload_n 0, 1) := by decide +kernel
theorem dX10_told_152 : decode cX10_told 152 = .ok (.getfield 40, 3) := by decide +kernel
theorem dX10_told_155 : decode cX10_told 155 = .ok (.aload_n 0, 1) := by decide +kernel
theorem dX10_told_156 : decode cX10_told 156 = .ok (.getfield 10, 3) := by decide +kernel
theorem dX10_told_159 : decode cX10_told 159 = .ok (.invokevirtual 91, 3) := by decide +kernel
theorem dX10_told_162 : decode cX10_told 162 = .ok (.ireturn, 1) := by decide +kernel
theorem dX10_told_163 : decode cX10_told 163 = .ok (.aload_n 0, 1) := by decide +kernel
theorem dX10_told_164 : decode cX10_told 164 = .ok (.getfield 33, 3) := by decide +kernel
theorem dX10_told_167 : decode cX10_told 167 = .ok (.getfield 94, 3) := by decide +kernel
theorem dX10_told_170 : decode cX10_told 170 = .ok (.ireturn, 1) := by decide +kernel
theorem dX10_told_171 : decode cX10_told 171 = .ok (.aload_n 0, 1) := by decide +kernel
theorem dX10_told_172 : decode cX10_told 172 = .ok (.getfield 47, 3) := by decide +kernel
theorem dX10_told_175 : decode cX10_told 175 = .ok (.getfield 95, 3) := by decide +kernel
theorem dX10_told_178 : decode cX10_told 178 = .ok (.ireturn, 1) := by decide +kernel
theorem dX10_told_179 : decode cX10_told 179 = .ok (.ldc 98, 2) := by decide +kernel
theorem dX10_told_181 : decode cX10_told 181 = .ok (.ireturn, 1) := by decide +kernel
theorem dX10_brokerAt_0 : decode cX10_brokerAt 0 = .ok (.aload_n 0, 1) := by decide +kernel
theorem dX10_brokerAt_1 : decode cX10_brokerAt 1 = .ok (.getfield 10, 3) := by decide +kernel
theorem dX10_brokerAt_4 : decode cX10_brokerAt 4 = .ok (.iload_n 1, 1) := by decide +kernel
theorem dX10_brokerAt_5 : decode cX10_brokerAt 5 = .ok (.invokevirtual 99, 3) := by decide +kernel
theorem dX10_brokerAt_8 : decode cX10_brokerAt 8 = .ok (.ifCond .ne 6, 3) := by decide +kernel
theorem dX10_brokerAt_11 : decode cX10_brokerAt 11 = .ok (.ldc 103, 2) := by decide +kernel
theorem dX10_brokerAt_13 : decode cX10_brokerAt 13 = .ok (.ireturn, 1) := by decide +kernel
theorem dX10_brokerAt_14 : decode cX10_brokerAt 14 = .ok (.iload_n 2, 1) := by decide +kernel
theorem dX10_brokerAt_15 : decode cX10_brokerAt 15 = .ok (.tableswitch 73 0 3 #[29, 39, 48, 57], 29) := by decide +kernel
theorem dX10_brokerAt_44 : decode cX10_brokerAt 44 = .ok (.aload_n 0, 1) := by decide +kernel
theorem dX10_brokerAt_45 : decode cX10_brokerAt 45 = .ok (.getfield 10, 3) := by decide +kernel
theorem dX10_brokerAt_48 : decode cX10_brokerAt 48 = .ok (.getfield 104, 3) := by decide +kernel
theorem dX10_brokerAt_51 : decode cX10_brokerAt 51 = .ok (.iload_n 1, 1) := by decide +kernel
theorem dX10_brokerAt_52 : decode cX10_brokerAt 52 = .ok (.iaload, 1) := by decide +kernel
theorem dX10_brokerAt_53 : decode cX10_brokerAt 53 = .ok (.ireturn, 1) := by decide +kernel
theorem dX10_brokerAt_54 : decode cX10_brokerAt 54 = .ok (.aload_n 0, 1) := by decide +kernel
theorem dX10_brokerAt_55 : decode cX10_brokerAt 55 = .ok (.getfield 10, 3) := by decide +kernel
theorem dX10_brokerAt_58 : decode cX10_brokerAt 58 = .ok (.iload_n 1, 1) := by decide +kernel
theorem dX10_brokerAt_59 : decode cX10_brokerAt 59 = .ok (.invokevirtual 108, 3) := by decide +kernel
theorem dX10_brokerAt_62 : decode cX10_brokerAt 62 = .ok (.ireturn, 1) := by decide +kernel
theorem dX10_brokerAt_63 : decode cX10_brokerAt 63 = .ok (.aload_n 0, 1) := by decide +kernel
theorem dX10_brokerAt_64 : decode cX10_brokerAt 64 = .ok (.getfield 10, 3) := by decide +kernel
theorem dX10_brokerAt_67 : decode cX10_brokerAt 67 = .ok (.iload_n 1, 1) := by decide +kernel
theorem dX10_brokerAt_68 : decode cX10_brokerAt 68 = .ok (.invokevirtual 112, 3) := by decide +kernel
theorem dX10_brokerAt_71 : decode cX10_brokerAt 71 = .ok (.ireturn, 1) := by decide +kernel
theorem dX10_brokerAt_72 : decode cX10_brokerAt 72 = .ok (.aload_n 0, 1) := by decide +kernel
theorem dX10_brokerAt_73 : decode cX10_brokerAt 73 = .ok (.getfield 10, 3) := by decide +kernel
theorem dX10_brokerAt_76 : decode cX10_brokerAt 76 = .ok (.aload_n 0, 1) := by decide +kernel
theorem dX10_brokerAt_77 : decode cX10_brokerAt 77 = .ok (.getfield 10, 3) := by decide +kernel
theorem dX10_brokerAt_80 : decode cX10_brokerAt 80 = .ok (.iload_n 1, 1) := by decide +kernel
theorem dX10_brokerAt_81 : decode cX10_brokerAt 81 = .ok (.invokevirtual 112, 3) := by decide +kernel
theorem dX10_brokerAt_84 : decode cX10_brokerAt 84 = .ok (.invokevirtual 115, 3) := by decide +kernel
theorem dX10_brokerAt_87 : decode cX10_brokerAt 87 = .ok (.ireturn, 1) := by decide +kernel
theorem dX10_brokerAt_88 : decode cX10_brokerAt 88 = .ok (.ldc 98, 2) := by decide +kernel
theorem dX10_brokerAt_90 : decode cX10_brokerAt 90 = .ok (.ireturn, 1) := by decide +kernel
theorem dX10_clientAt_0 : decode cX10_clientAt 0 = .ok (.aload_n 0, 1) := by decide +kernel
theorem dX10_clientAt_1 : decode cX10_clientAt 1 = .ok (.getfield 10, 3) := by decide +kernel
theorem dX10_clientAt_4 : decode cX10_clientAt 4 = .ok (.iload_n 1, 1) := by decide +kernel
theorem dX10_clientAt_5 : decode cX10_clientAt 5 = .ok (.invokevirtual 118, 3) := by decide +kernel
theorem dX10_clientAt_8 : decode cX10_clientAt 8 = .ok (.ifCond .ne 6, 3) := by decide +kernel
theorem dX10_clientAt_11 : decode cX10_clientAt 11 = .ok (.ldc 103, 2) := by decide +kernel
theorem dX10_clientAt_13 : decode cX10_clientAt 13 = .ok (.ireturn, 1) := by decide +kernel
theorem dX10_clientAt_14 : decode cX10_clientAt 14 = .ok (.aload_n 0, 1) := by decide +kernel
theorem dX10_clientAt_15 : decode cX10_clientAt 15 = .ok (.getfield 10, 3) := by decide +kernel
theorem dX10_clientAt_18 : decode cX10_clientAt 18 = .ok (.getfield 121, 3) := by decide +kernel
theorem dX10_clientAt_21 : decode cX10_clientAt 21 = .ok (.iload_n 1, 1) := by decide +kernel
theorem dX10_clientAt_22 : decode cX10_clientAt 22 = .ok (.aaload, 1) := by decide +kernel
theorem dX10_clientAt_23 : decode cX10_clientAt 23 = .ok (.astore_n 3, 1) := by decide +kernel
theorem dX10_clientAt_24 : decode cX10_clientAt 24 = .ok (.iload_n 2, 1) := by decide +kernel
theorem dX10_clientAt_25 : decode cX10_clientAt 25 = .ok (.tableswitch 83 0 5 #[39, 44, 57, 62, 67, 72], 39) := by decide +kernel
theorem dX10_clientAt_64 : decode cX10_clientAt 64 = .ok (.aload_n 3, 1) := by decide +kernel
theorem dX10_clientAt_65 : decode cX10_clientAt 65 = .ok (.getfield 125, 3) := by decide +kernel
theorem dX10_clientAt_68 : decode cX10_clientAt 68 = .ok (.ireturn, 1) := by decide +kernel
theorem dX10_clientAt_69 : decode cX10_clientAt 69 = .ok (.aload_n 3, 1) := by decide +kernel
theorem dX10_clientAt_70 : decode cX10_clientAt 70 = .ok (.getfield 130, 3) := by decide +kernel
theorem dX10_clientAt_73 : decode cX10_clientAt 73 = .ok (.ifCond .eq 7, 3) := by decide +kernel
theorem dX10_clientAt_76 : decode cX10_clientAt 76 = .ok (.iconst 1, 1) := by decide +kernel
theorem dX10_clientAt_77 : decode cX10_clientAt 77 = .ok (.goto 4, 3) := by decide +kernel
theorem dX10_clientAt_80 : decode cX10_clientAt 80 = .ok (.iconst 0, 1) := by decide +kernel
theorem dX10_clientAt_81 : decode cX10_clientAt 81 = .ok (.ireturn, 1) := by decide +kernel
theorem dX10_clientAt_82 : decode cX10_clientAt 82 = .ok (.aload_n 3, 1) := by decide +kernel
theorem dX10_clientAt_83 : decode cX10_clientAt 83 = .ok (.getfield 134, 3) := by decide +kernel
theorem dX10_clientAt_86 : decode cX10_clientAt 86 = .ok (.ireturn, 1) := by decide +kernel
theorem dX10_clientAt_87 : decode cX10_clientAt 87 = .ok (.aload_n 3, 1) := by decide +kernel
theorem dX10_clientAt_88 : decode cX10_clientAt 88 = .ok (.getfield 137, 3) := by decide +kernel
theorem dX10_clientAt_91 : decode cX10_clientAt 91 = .ok (.ireturn, 1) := by decide +kernel
theorem dX10_clientAt_92 : decode cX10_clientAt 92 = .ok (.aload_n 3, 1) := by decide +kernel
theorem dX10_clientAt_93 : decode cX10_clientAt 93 = .ok (.getfield 140, 3) := by decide +kernel
theorem dX10_clientAt_96 : decode cX10_clientAt 96 = .ok (.ireturn, 1) := by decide +kernel
theorem dX10_clientAt_97 : decode cX10_clientAt 97 = .ok (.aload_n 0, 1) := by decide +kernel
theorem dX10_clientAt_98 : decode cX10_clientAt 98 = .ok (.getfield 10, 3) := by decide +kernel
theorem dX10_clientAt_101 : decode cX10_clientAt 101 = .ok (.iconst 1, 1) := by decide +kernel
theorem dX10_clientAt_102 : decode cX10_clientAt 102 = .ok (.iload_n 1, 1) := by decide +kernel
theorem dX10_clientAt_103 : decode cX10_clientAt 103 = .ok (.ishl, 1) := by decide +kernel
theorem dX10_clientAt_104 : decode cX10_clientAt 104 = .ok (.invokevirtual 115, 3) := by decide +kernel
theorem dX10_clientAt_107 : decode cX10_clientAt 107 = .ok (.ireturn, 1) := by decide +kernel
theorem dX10_clientAt_108 : decode cX10_clientAt 108 = .ok (.ldc 98, 2) := by decide +kernel
theorem dX10_clientAt_110 : decode cX10_clientAt 110 = .ok (.ireturn, 1) := by decide +kernel
theorem dX10_log_0 : decode cX10_log 0 = .ok (.aload_n 0, 1) := by decide +kernel
theorem dX10_log_1 : decode cX10_log 1 = .ok (.getfield 10, 3) := by decide +kernel
theorem dX10_log_4 : decode cX10_log 4 = .ok (.iload_n 1, 1) := by decide +kernel
theorem dX10_log_5 : decode cX10_log 5 = .ok (.invokevirtual 118, 3) := by decide +kernel
theorem dX10_log_8 : decode cX10_log 8 = .ok (.ifCond .ne 6, 3) := by decide +kernel
theorem dX10_log_11 : decode cX10_log 11 = .ok (.ldc 103, 2) := by decide +kernel
theorem dX10_log_13 : decode cX10_log 13 = .ok (.ireturn, 1) := by decide +kernel
theorem dX10_log_14 : decode cX10_log 14 = .ok (.iload_n 2, 1) := by decide +kernel
theorem dX10_log_15 : decode cX10_log 15 = .ok (.iconst 0, 1) := by decide +kernel
theorem dX10_log_16 : decode cX10_log 16 = .ok (.bipush 11, 2) := by decide +kernel
theorem dX10_log_18 : decode cX10_log 18 = .ok (.invokestatic 143, 3) := by decide +kernel
theorem dX10_log_21 : decode cX10_log 21 = .ok (.ifCond .ne 6, 3) := by decide +kernel
theorem dX10_log_24 : decode cX10_log 24 = .ok (.ldc 98, 2) := by decide +kernel
theorem dX10_log_26 : decode cX10_log 26 = .ok (.ireturn, 1) := by decide +kernel
theorem dX10_log_27 : decode cX10_log 27 = .ok (.aload_n 0, 1) := by decide +kernel
theorem dX10_log_28 : decode cX10_log 28 = .ok (.getfield 10, 3) := by decide +kernel
theorem dX10_log_31 : decode cX10_log 31 = .ok (.getfield 121, 3) := by decide +kernel
theorem dX10_log_34 : decode cX10_log 34 = .ok (.iload_n 1, 1) := by decide +kernel
theorem dX10_log_35 : decode cX10_log 35 = .ok (.aaload, 1) := by decide +kernel
theorem dX10_log_36 : decode cX10_log 36 = .ok (.iload_n 2, 1) := by decide +kernel
theorem dX10_log_37 : decode cX10_log 37 = .ok (.invokevirtual 147, 3) := by decide +kernel
theorem dX10_log_40 : decode cX10_log 40 = .ok (.ireturn, 1) := by decide +kernel
theorem dX10_wishAt_0 : decode cX10_wishAt 0 = .ok (.aload_n 0, 1) := by decide +kernel
theorem dX10_wishAt_1 : decode cX10_wishAt 1 = .ok (.getfield 10, 3) := by decide +kernel
theorem dX10_wishAt_4 : decode cX10_wishAt 4 = .ok (.iload_n 1, 1) := by decide +kernel
theorem dX10_wishAt_5 : decode cX10_wishAt 5 = .ok (.invokevirtual 150, 3) := by decide +kernel
theorem dX10_wishAt_8 : decode cX10_wishAt 8 = .ok (.ifCond .ne 6, 3) := by decide +kernel
theorem dX10_wishAt_11 : decode cX10_wishAt 11 = .ok (.ldc 103, 2) := by decide +kernel
theorem dX10_wishAt_13 : decode cX10_wishAt 13 = .ok (.ireturn, 1) := by decide +kernel
theorem dX10_wishAt_14 : decode cX10_wishAt 14 = .ok (.iload_n 2, 1) := by decide +kernel
theorem dX10_wishAt_15 : decode cX10_wishAt 15 = .ok (.iconst 0, 1) := by decide +kernel
theorem dX10_wishAt_16 : decode cX10_wishAt 16 = .ok (.bipush 8, 2) := by decide +kernel
theorem dX10_wishAt_18 : decode cX10_wishAt 18 = .ok (.invokestatic 143, 3) := by decide +kernel
theorem dX10_wishAt_21 : decode cX10_wishAt 21 = .ok (.ifCond .ne 6, 3) := by decide +kernel
theorem dX10_wishAt_24 : decode cX10_wishAt 24 = .ok (.ldc 98, 2) := by decide +kernel
theorem dX10_wishAt_26 : decode cX10_wishAt 26 = .ok (.ireturn, 1) := by decide +kernel
theorem dX10_wishAt_27 : decode cX10_wishAt 27 = .ok (.iload_n 2, 1) := by decide +kernel
theorem dX10_wishAt_28 : decode cX10_wishAt 28 = .ok (.ifCond .ne 13, 3) := by decide +kernel
theorem dX10_wishAt_31 : decode cX10_wishAt 31 = .ok (.aload_n 0, 1) := by decide +kernel
theorem dX10_wishAt_32 : decode cX10_wishAt 32 = .ok (.getfield 10, 3) := by decide +kernel
theorem dX10_wishAt_35 : decode cX10_wishAt 35 = .ok (.getfield 153, 3) := by decide +kernel
theorem dX10_wishAt_38 : decode cX10_wishAt 38 = .ok (.iload_n 1, 1) := by decide +kernel
theorem dX10_wishAt_39 : decode cX10_wishAt 39 = .ok (.iaload, 1) := by decide +kernel
theorem dX10_wishAt_40 : decode cX10_wishAt 40 = .ok (.ireturn, 1) := by decide +kernel
theorem dX10_wishAt_41 : decode cX10_wishAt 41 = .ok (.iload_n 2, 1) := by decide +kernel
theorem dX10_wishAt_42 : decode cX10_wishAt 42 = .ok (.bipush 6, 2) := by decide +kernel
theorem dX10_wishAt_44 : decode cX10_wishAt 44 = .ok (.if_icmp .gt 19, 3) := by decide +kernel
theorem dX10_wishAt_47 : decode cX10_wishAt 47 = .ok (.aload_n 0, 1) := by decide +kernel
theorem dX10_wishAt_48 : decode cX10_wishAt 48 = .ok (.getfield 10, 3) := by decide +kernel
theorem dX10_wishAt_51 : decode cX10_wishAt 51 = .ok (.getfield 156, 3) := by decide +kernel
theorem dX10_wishAt_54 : decode cX10_wishAt 54 = .ok (.iload_n 1, 1) := by decide +kernel
theorem dX10_wishAt_55 : decode cX10_wishAt 55 = .ok (.iaload, 1) := by decide +kernel
theorem dX10_wishAt_56 : decode cX10_wishAt 56 = .ok (.iload_n 2, 1) := by decide +kernel
theorem dX10_wishAt_57 : decode cX10_wishAt 57 = .ok (.iconst 1, 1) := by decide +kernel
theorem dX10_wishAt_58 : decode cX10_wishAt 58 = .ok (.isub, 1) := by decide +kernel
theorem dX10_wishAt_59 : decode cX10_wishAt 59 = .ok (.invokestatic 159, 3) := by decide +kernel
theorem dX10_wishAt_62 : decode cX10_wishAt 62 = .ok (.ireturn, 1) := by decide +kernel
theorem dX10_wishAt_63 : decode cX10_wishAt 63 = .ok (.iload_n 2, 1) := by decide +kernel
theorem dX10_wishAt_64 : decode cX10_wishAt 64 = .ok (.bipush 7, 2) := by decide +kernel
theorem dX10_wishAt_66 : decode cX10_wishAt 66 = .ok (.if_icmp .ne 16, 3) := by decide +kernel
theorem dX10_wishAt_69 : decode cX10_wishAt 69 = .ok (.aload_n 0, 1) := by decide +kernel
theorem dX10_wishAt_70 : decode cX10_wishAt 70 = .ok (.getfield 10, 3) := by decide +kernel
theorem dX10_wishAt_73 : decode cX10_wishAt 73 = .ok (.getfield 156, 3) := by decide +kernel
theorem dX10_wishAt_76 : decode cX10_wishAt 76 = .ok (.iload_n 1, 1) := by decide +kernel
theorem dX10_wishAt_77 : decode cX10_wishAt 77 = .ok (.iaload, 1) := by decide +kernel
theorem dX10_wishAt_78 : decode cX10_wishAt 78 = .ok (.invokestatic 165, 3) := by decide +kernel
theorem dX10_wishAt_81 : decode cX10_wishAt 81 = .ok (.ireturn, 1) := by decide +kernel
theorem dX10_wishAt_82 : decode cX10_wishAt 82 = .ok (.aload_n 0, 1) := by decide +kernel
theorem dX10_wishAt_83 : decode cX10_wishAt 83 = .ok (.getfield 10, 3) := by decide +kernel
theorem dX10_wishAt_86 : decode cX10_wishAt 86 = .ok (.iload_n 1, 1) := by decide +kernel
theorem dX10_wishAt_87 : decode cX10_wishAt 87 = .ok (.invokevirtual 168, 3) := by decide +kernel
theorem dX10_wishAt_90 : decode cX10_wishAt 90 = .ok (.ireturn, 1) := by decide +kernel
theorem dX10_toldOn_0 : decode cX10_toldOn 0 = .ok (.aload_n 0, 1) := by decide +kernel
theorem dX10_toldOn_1 : decode cX10_toldOn 1 = .ok (.getfield 10, 3) := by decide +kernel
theorem dX10_toldOn_4 : decode cX10_toldOn 4 = .ok (.iload_n 1, 1) := by decide +kernel
theorem dX10_toldOn_5 : decode cX10_toldOn 5 = .ok (.iload_n 2, 1) := by decide +kernel
theorem dX10_toldOn_6 : decode cX10_toldOn 6 = .ok (.invokevirtual 171, 3) := by decide +kernel
theorem dX10_toldOn_9 : decode cX10_toldOn 9 = .ok (.ifCond .ne 6, 3) := by decide +kernel
theorem dX10_toldOn_12 : decode cX10_toldOn 12 = .ok (.ldc 103, 2) := by decide +kernel
theorem dX10_toldOn_14 : decode cX10_toldOn 14 = .ok (.ireturn, 1) := by decide +kernel
theorem dX10_toldOn_15 : decode cX10_toldOn 15 = .ok (.aload_n 0, 1) := by decide +kernel
theorem dX10_toldOn_16 : decode cX10_toldOn 16 = .ok (.getfield 19, 3) := by decide +kernel
theorem dX10_toldOn_19 : decode cX10_toldOn 19 = .ok (.aload_n 0, 1) := by decide +kernel
theorem dX10_toldOn_20 : decode cX10_toldOn 20 = .ok (.getfield 10, 3) := by decide +kernel
theorem dX10_toldOn_23 : decode cX10_toldOn 23 = .ok (.invokevirtual 74, 3) := by decide +kernel
theorem dX10_toldOn_26 : decode cX10_toldOn 26 = .ok (.aload_n 0, 1) := by decide +kernel
theorem dX10_toldOn_27 : decode cX10_toldOn 27 = .ok (.getfield 19, 3) := by decide +kernel
theorem dX10_toldOn_30 : decode cX10_toldOn 30 = .ok (.aload_n 0, 1) := by decide +kernel
theorem dX10_toldOn_31 : decode cX10_toldOn 31 = .ok (.getfield 10, 3) := by decide +kernel
theorem dX10_toldOn_34 : decode cX10_toldOn 34 = .ok (.iload_n 1, 1) := by decide +kernel
theorem dX10_toldOn_35 : decode cX10_toldOn 35 = .ok (.iload_n 2, 1) := by decide +kernel
theorem dX10_toldOn_36 : decode cX10_toldOn 36 = .ok (.invokevirtual 175, 3) := by decide +kernel
theorem dX10_toldOn_39 : decode cX10_toldOn 39 = .ok (.getfield 179, 3) := by decide +kernel
theorem dX10_toldOn_42 : decode cX10_toldOn 42 = .ok (.ireturn, 1) := by decide +kernel
theorem dX10_box_0 : decode cX10_box 0 = .ok (.aload_n 0, 1) := by decide +kernel
theorem dX10_box_1 : decode cX10_box 1 = .ok (.getfield 10, 3) := by decide +kernel
theorem dX10_box_4 : decode cX10_box 4 = .ok (.iload_n 1, 1) := by decide +kernel
theorem dX10_box_5 : decode cX10_box 5 = .ok (.iload_n 2, 1) := by decide +kernel
theorem dX10_box_6 : decode cX10_box 6 = .ok (.invokevirtual 171, 3) := by decide +kernel
theorem dX10_box_9 : decode cX10_box 9 = .ok (.ifCond .ne 6, 3) := by decide +kernel
theorem dX10_box_12 : decode cX10_box 12 = .ok (.ldc 103, 2) := by decide +kernel
theorem dX10_box_14 : decode cX10_box 14 = .ok (.ireturn, 1) := by decide +kernel
theorem dX10_box_15 : decode cX10_box 15 = .ok (.aload_n 0, 1) := by decide +kernel
theorem dX10_box_16 : decode cX10_box 16 = .ok (.getfield 19, 3) := by decide +kernel
theorem dX10_box_19 : decode cX10_box 19 = .ok (.aload_n 0, 1) := by decide +kernel
theorem dX10_box_20 : decode cX10_box 20 = .ok (.getfield 10, 3) := by decide +kernel
theorem dX10_box_23 : decode cX10_box 23 = .ok (.invokevirtual 74, 3) := by decide +kernel
theorem dX10_box_26 : decode cX10_box 26 = .ok (.aload_n 0, 1) := by decide +kernel
theorem dX10_box_27 : decode cX10_box 27 = .ok (.getfield 19, 3) := by decide +kernel
theorem dX10_box_30 : decode cX10_box 30 = .ok (.aload_n 0, 1) := by decide +kernel
theorem dX10_box_31 : decode cX10_box 31 = .ok (.getfield 10, 3) := by decide +kernel
theorem dX10_box_34 : decode cX10_box 34 = .ok (.iload_n 1, 1) := by decide +kernel
theorem dX10_box_35 : decode cX10_box 35 = .ok (.iload_n 2, 1) := by decide +kernel
theorem dX10_box_36 : decode cX10_box 36 = .ok (.invokevirtual 175, 3) := by decide +kernel
theorem dX10_box_39 : decode cX10_box 39 = .ok (.astore 5, 2) := by decide +kernel
theorem dX10_box_41 : decode cX10_box 41 = .ok (.iload_n 3, 1) := by decide +kernel
theorem dX10_box_42 : decode cX10_box 42 = .ok (.iconst 0, 1) := by decide +kernel
theorem dX10_box_43 : decode cX10_box 43 = .ok (.aload 5, 2) := by decide +kernel
theorem dX10_box_45 : decode cX10_box 45 = .ok (.getfield 179, 3) := by decide +kernel
theorem dX10_box_48 : decode cX10_box 48 = .ok (.iconst 1, 1) := by decide +kernel
theorem dX10_box_49 : decode cX10_box 49 = .ok (.isub, 1) := by decide +kernel
theorem dX10_box_50 : decode cX10_box 50 = .ok (.invokestatic 143, 3) := by decide +kernel
theorem dX10_box_53 : decode cX10_box 53 = .ok (.ifCond .ne 6, 3) := by decide +kernel
theorem dX10_box_56 : decode cX10_box 56 = .ok (.ldc 103, 2) := by decide +kernel
theorem dX10_box_58 : decode cX10_box 58 = .ok (.ireturn, 1) := by decide +kernel
theorem dX10_box_59 : decode cX10_box 59 = .ok (.iload 4, 2) := by decide +kernel
theorem dX10_box_61 : decode cX10_box 61 = .ok (.iconst 0, 1) := by decide +kernel
theorem dX10_box_62 : decode cX10_box 62 = .ok (.bipush 7, 2) := by decide +kernel
theorem dX10_box_64 : decode cX10_box 64 = .ok (.invokestatic 143, 3) := by decide +kernel
theorem dX10_box_67 : decode cX10_box 67 = .ok (.ifCond .ne 6, 3) := by decide +kernel
theorem dX10_box_70 : decode cX10_box 70 = .ok (.ldc 98, 2) := by decide +kernel
theorem dX10_box_72 : decode cX10_box 72 = .ok (.ireturn, 1) := by decide +kernel
theorem dX10_box_73 : decode cX10_box 73 = .ok (.aload 5, 2) := by decide +kernel
theorem dX10_box_75 : decode cX10_box 75 = .ok (.getfield 182, 3) := by decide +kernel
theorem dX10_box_78 : decode cX10_box 78 = .ok (.iload_n 3, 1) := by decide +kernel
theorem dX10_box_79 : decode cX10_box 79 = .ok (.iaload, 1) := by decide +kernel
theorem dX10_box_80 : decode cX10_box 80 = .ok (.istore 6, 2) := by decide +kernel
theorem dX10_box_82 : decode cX10_box 82 = .ok (.iload 4, 2) := by decide +kernel
theorem dX10_box_84 : decode cX10_box 84 = .ok (.bipush 6, 2) := by decide +kernel
theorem dX10_box_86 : decode cX10_box 86 = .ok (.if_icmp .ge 11, 3) := by decide +kernel
theorem dX10_box_89 : decode cX10_box 89 = .ok (.iload 6, 2) := by decide +kernel
theorem dX10_box_91 : decode cX10_box 91 = .ok (.iload 4, 2) := by decide +kernel
theorem dX10_box_93 : decode cX10_box 93 = .ok (.invokestatic 159, 3) := by decide +kernel
theorem dX10_box_96 : decode cX10_box 96 = .ok (.ireturn, 1) := by decide +kernel
theorem dX10_box_97 : decode cX10_box 97 = .ok (.iload 4, 2) := by decide +kernel
theorem dX10_box_99 : decode cX10_box 99 = .ok (.bipush 6, 2) := by decide +kernel
theorem dX10_box_101 : decode cX10_box 101 = .ok (.if_icmp .ne 9, 3) := by decide +kernel
theorem dX10_box_104 : decode cX10_box 104 = .ok (.iload 6, 2) := by decide +kernel
theorem dX10_box_106 : decode cX10_box 106 = .ok (.invokestatic 165, 3) := by decide +kernel
theorem dX10_box_109 : decode cX10_box 109 = .ok (.ireturn, 1) := by decide +kernel
theorem dX10_box_110 : decode cX10_box 110 = .ok (.aload_n 0, 1) := by decide +kernel
theorem dX10_box_111 : decode cX10_box 111 = .ok (.getfield 10, 3) := by decide +kernel
theorem dX10_box_114 : decode cX10_box 114 = .ok (.iload 6, 2) := by decide +kernel
theorem dX10_box_116 : decode cX10_box 116 = .ok (.invokevirtual 185, 3) := by decide +kernel
theorem dX10_box_119 : decode cX10_box 119 = .ok (.ifCond .eq 7, 3) := by decide +kernel
theorem dX10_box_122 : decode cX10_box 122 = .ok (.iconst 1, 1) := by decide +kernel
theorem dX10_box_123 : decode cX10_box 123 = .ok (.goto 4, 3) := by decide +kernel
theorem dX10_box_126 : decode cX10_box 126 = .ok (.iconst 0, 1) := by decide +kernel
theorem dX10_box_127 : decode cX10_box 127 = .ok (.ireturn, 1) := by decide +kernel
theorem dX10_would_0 : decode cX10_would 0 = .ok (.aload_n 0, 1) := by decide +kernel
theorem dX10_would_1 : decode cX10_would 1 = .ok (.getfield 10, 3) := by decide +kernel
theorem dX10_would_4 : decode cX10_would 4 = .ok (.iload_n 1, 1) := by decide +kernel
theorem dX10_would_5 : decode cX10_would 5 = .ok (.invokevirtual 99, 3) := by decide +kernel
theorem dX10_would_8 : decode cX10_would 8 = .ok (.ifCond .ne 6, 3) := by decide +kernel
theorem dX10_would_11 : decode cX10_would 11 = .ok (.ldc 103, 2) := by decide +kernel
theorem dX10_would_13 : decode cX10_would 13 = .ok (.ireturn, 1) := by decide +kernel
theorem dX10_would_14 : decode cX10_would 14 = .ok (.iload_n 2, 1) := by decide +kernel
theorem dX10_would_15 : decode cX10_would 15 = .ok (.iload_n 3, 1) := by decide +kernel
theorem dX10_would_16 : decode cX10_would 16 = .ok (.iload 4, 2) := by decide +kernel
theorem dX10_would_18 : decode cX10_would 18 = .ok (.invokestatic 188, 3) := by decide +kernel
theorem dX10_would_21 : decode cX10_would 21 = .ok (.ifCond .eq 13, 3) := by decide +kernel
theorem dX10_would_24 : decode cX10_would 24 = .ok (.iload 5, 2) := by decide +kernel
theorem dX10_would_26 : decode cX10_would 26 = .ok (.iconst 0, 1) := by decide +kernel
theorem dX10_would_27 : decode cX10_would 27 = .ok (.iconst 3, 1) := by decide +kernel
theorem dX10_would_28 : decode cX10_would 28 = .ok (.invokestatic 143, 3) := by decide +kernel
theorem dX10_would_31 : decode cX10_would 31 = .ok (.ifCond .ne 6, 3) := by decide +kernel
theorem dX10_would_34 : decode cX10_would 34 = .ok (.ldc 98, 2) := by decide +kernel
theorem dX10_would_36 : decode cX10_would 36 = .ok (.ireturn, 1) := by decide +kernel
theorem dX10_would_37 : decode cX10_would 37 = .ok (.aload_n 0, 1) := by decide +kernel
theorem dX10_would_38 : decode cX10_would 38 = .ok (.getfield 19, 3) := by decide +kernel
theorem dX10_would_41 : decode cX10_would 41 = .ok (.aload_n 0, 1) := by decide +kernel
theorem dX10_would_42 : decode cX10_would 42 = .ok (.getfield 10, 3) := by decide +kernel
theorem dX10_would_45 : decode cX10_would 45 = .ok (.invokevirtual 74, 3) := by decide +kernel
theorem dX10_would_48 : decode cX10_would 48 = .ok (.aload_n 0, 1) := by decide +kernel
theorem dX10_would_49 : decode cX10_would 49 = .ok (.getfield 26, 3) := by decide +kernel
theorem dX10_would_52 : decode cX10_would 52 = .ok (.aload_n 0, 1) := by decide +kernel
theorem dX10_would_53 : decode cX10_would 53 = .ok (.getfield 10, 3) := by decide +kernel
theorem dX10_would_56 : decode cX10_would 56 = .ok (.aload_n 0, 1) := by decide +kernel
theorem dX10_would_57 : decode cX10_would 57 = .ok (.getfield 19, 3) := by decide +kernel
theorem dX10_would_60 : decode cX10_would 60 = .ok (.iload_n 1, 1) := by decide +kernel
theorem dX10_would_61 : decode cX10_would 61 = .ok (.iload_n 2, 1) := by decide +kernel
theorem dX10_would_62 : decode cX10_would 62 = .ok (.iload_n 3, 1) := by decide +kernel
theorem dX10_would_63 : decode cX10_would 63 = .ok (.iload 4, 2) := by decide +kernel
theorem dX10_would_65 : decode cX10_would 65 = .ok (.invokestatic 191, 3) := by decide +kernel
theorem dX10_would_68 : decode cX10_would 68 = .ok (.invokevirtual 195, 3) := by decide +kernel
theorem dX10_would_71 : decode cX10_would 71 = .ok (.iload 5, 2) := by decide +kernel
theorem dX10_would_73 : decode cX10_would 73 = .ok (.tableswitch 51 0 2 #[27, 35, 43], 27) := by decide +kernel
theorem dX10_would_100 : decode cX10_would 100 = .ok (.aload_n 0, 1) := by decide +kernel
theorem dX10_would_101 : decode cX10_would 101 = .ok (.getfield 26, 3) := by decide +kernel
theorem dX10_would_104 : decode cX10_would 104 = .ok (.getfield 199, 3) := by decide +kernel
theorem dX10_would_107 : decode cX10_would 107 = .ok (.ireturn, 1) := by decide +kernel
theorem dX10_would_108 : decode cX10_would 108 = .ok (.aload_n 0, 1) := by decide +kernel
theorem dX10_would_109 : decode cX10_would 109 = .ok (.getfield 26, 3) := by decide +kernel
theorem dX10_would_112 : decode cX10_would 112 = .ok (.getfield 202, 3) := by decide +kernel
theorem dX10_would_115 : decode cX10_would 115 = .ok (.ireturn, 1) := by decide +kernel
theorem dX10_would_116 : decode cX10_would 116 = .ok (.aload_n 0, 1) := by decide +kernel
theorem dX10_would_117 : decode cX10_would 117 = .ok (.getfield 26, 3) := by decide +kernel
theorem dX10_would_120 : decode cX10_would 120 = .ok (.getfield 205, 3) := by decide +kernel
theorem dX10_would_123 : decode cX10_would 123 = .ok (.ireturn, 1) := by decide +kernel
theorem dX10_would_124 : decode cX10_would 124 = .ok (.aload_n 0, 1) := by decide +kernel
theorem dX10_would_125 : decode cX10_would 125 = .ok (.getfield 26, 3) := by decide +kernel
theorem dX10_would_128 : decode cX10_would 128 = .ok (.getfield 208, 3) := by decide +kernel
theorem dX10_would_131 : decode cX10_would 131 = .ok (.ireturn, 1) := by decide +kernel
theorem dX10_broker_0 : decode cX10_broker 0 = .ok (.aload_n 0, 1) := by decide +kernel
theorem dX10_broker_1 : decode cX10_broker 1 = .ok (.getfield 10, 3) := by decide +kernel
theorem dX10_broker_4 : decode cX10_broker 4 = .ok (.iload_n 1, 1) := by decide +kernel
theorem dX10_broker_5 : decode cX10_broker 5 = .ok (.invokevirtual 99, 3) := by decide +kernel
theorem dX10_broker_8 : decode cX10_broker 8 = .ok (.ifCond .ne 6, 3) := by decide +kernel
theorem dX10_broker_11 : decode cX10_broker 11 = .ok (.ldc 103, 2) := by decide +kernel
theorem dX10_broker_13 : decode cX10_broker 13 = .ok (.ireturn, 1) := by decide +kernel
theorem dX10_broker_14 : decode cX10_broker 14 = .ok (.aload_n 0, 1) := by decide +kernel
theorem dX10_broker_15 : decode cX10_broker 15 = .ok (.getfield 10, 3) := by decide +kernel
theorem dX10_broker_18 : decode cX10_broker 18 = .ok (.getfield 58, 3) := by decide +kernel
theorem dX10_broker_21 : decode cX10_broker 21 = .ok (.bipush 7, 2) := by decide +kernel
theorem dX10_broker_23 : decode cX10_broker 23 = .ok (.if_icmp .lt 6, 3) := by decide +kernel
theorem dX10_broker_26 : decode cX10_broker 26 = .ok (.ldc 211, 2) := by decide +kernel
theorem dX10_broker_28 : decode cX10_broker 28 = .ok (.ireturn, 1) := by decide +kernel
theorem dX10_broker_29 : decode cX10_broker 29 = .ok (.aload_n 0, 1) := by decide +kernel
theorem dX10_broker_30 : decode cX10_broker 30 = .ok (.getfield 33, 3) := by decide +kernel
theorem dX10_broker_33 : decode cX10_broker 33 = .ok (.aload_n 0, 1) := by decide +kernel
theorem dX10_broker_34 : decode cX10_broker 34 = .ok (.getfield 10, 3) := by decide +kernel
theorem dX10_broker_37 : decode cX10_broker 37 = .ok (.invokevirtual 212, 3) := by decide +kernel
theorem dX10_broker_40 : decode cX10_broker 40 = .ok (.aload_n 0, 1) := by decide +kernel
theorem dX10_broker_41 : decode cX10_broker 41 = .ok (.getfield 19, 3) := by decide +kernel
theorem dX10_broker_44 : decode cX10_broker 44 = .ok (.invokevirtual 215, 3) := by decide +kernel
theorem dX10_broker_47 : decode cX10_broker 47 = .ok (.aload_n 0, 1) := by decide +kernel
theorem dX10_broker_48 : decode cX10_broker 48 = .ok (.getfield 10, 3) := by decide +kernel
theorem dX10_broker_51 : decode cX10_broker 51 = .ok (.iload_n 1, 1) := by decide +kernel
theorem dX10_broker_52 : decode cX10_broker 52 = .ok (.invokevirtual 218, 3) := by decide +kernel
theorem dX10_broker_55 : decode cX10_broker 55 = .ok (.ireturn, 1) := by decide +kernel
theorem dX10_client_0 : decode cX10_client 0 = .ok (.aload_n 0, 1) := by decide +kernel
theorem dX10_client_1 : decode cX10_client 1 = .ok (.getfield 10, 3) := by decide +kernel
theorem dX10_client_4 : decode cX10_client 4 = .ok (.iload_n 1, 1) := by decide +kernel
theorem dX10_client_5 : decode cX10_client 5 = .ok (.invokevirtual 99, 3) := by decide +kernel
theorem dX10_client_8 : decode cX10_client 8 = .ok (.ifCond .ne 6, 3) := by decide +kernel
theorem dX10_client_11 : decode cX10_client 11 = .ok (.ldc 103, 2) := by decide +kernel
theorem dX10_client_13 : decode cX10_client 13 = .ok (.ireturn, 1) := by decide +kernel
theorem dX10_client_14 : decode cX10_client 14 = .ok (.aload_n 0, 1) := by decide +kernel
theorem dX10_client_15 : decode cX10_client 15 = .ok (.getfield 10, 3) := by decide +kernel
theorem dX10_client_18 : decode cX10_client 18 = .ok (.getfield 62, 3) := by decide +kernel
theorem dX10_client_21 : decode cX10_client 21 = .ok (.bipush 6, 2) := by decide +kernel
theorem dX10_client_23 : decode cX10_client 23 = .ok (.if_icmp .lt 6, 3) := by decide +kernel
theorem dX10_client_26 : decode cX10_client 26 = .ok (.ldc 211, 2) := by decide +kernel
theorem dX10_client_28 : decode cX10_client 28 = .ok (.ireturn, 1) := by decide +kernel
theorem dX10_client_29 : decode cX10_client 29 = .ok (.aload_n 0, 1) := by decide +kernel
theorem dX10_client_30 : decode cX10_client 30 = .ok (.getfield 33, 3) := by decide +kernel
theorem dX10_client_33 : decode cX10_client 33 = .ok (.aload_n 0, 1) := by decide +kernel
theorem dX10_client_34 : decode cX10_client 34 = .ok (.getfield 10, 3) := by decide +kernel
theorem dX10_client_37 : decode cX10_client 37 = .ok (.invokevirtual 212, 3) := by decide +kernel
theorem dX10_client_40 : decode cX10_client 40 = .ok (.aload_n 0, 1) := by decide +kernel
theorem dX10_client_41 : decode cX10_client 41 = .ok (.getfield 10, 3) := by decide +kernel
theorem dX10_client_44 : decode cX10_client 44 = .ok (.iload_n 1, 1) := by decide +kernel
theorem dX10_client_45 : decode cX10_client 45 = .ok (.invokevirtual 221, 3) := by decide +kernel
theorem dX10_client_48 : decode cX10_client 48 = .ok (.ireturn, 1) := by decide +kernel
theorem dX10_wish_0 : decode cX10_wish 0 = .ok (.aload_n 0, 1) := by decide +kernel
theorem dX10_wish_1 : decode cX10_wish 1 = .ok (.getfield 10, 3) := by decide +kernel
theorem dX10_wish_4 : decode cX10_wish 4 = .ok (.iload_n 1, 1) := by decide +kernel
theorem dX10_wish_5 : decode cX10_wish 5 = .ok (.invokevirtual 118, 3) := by decide +kernel
theorem dX10_wish_8 : decode cX10_wish 8 = .ok (.ifCond .ne 6, 3) := by decide +kernel
theorem dX10_wish_11 : decode cX10_wish 11 = .ok (.ldc 103, 2) := by decide +kernel
theorem dX10_wish_13 : decode cX10_wish 13 = .ok (.ireturn, 1) := by decide +kernel
theorem dX10_wish_14 : decode cX10_wish 14 = .ok (.iload_n 2, 1) := by decide +kernel
theorem dX10_wish_15 : decode cX10_wish 15 = .ok (.invokestatic 224, 3) := by decide +kernel
theorem dX10_wish_18 : decode cX10_wish 18 = .ok (.ifCond .eq 30, 3) := by decide +kernel
theorem dX10_wish_21 : decode cX10_wish 21 = .ok (.iload 4, 2) := by decide +kernel
theorem dX10_wish_23 : decode cX10_wish 23 = .ok (.invokestatic 224, 3) := by decide +kernel
theorem dX10_wish_26 : decode cX10_wish 26 = .ok (.ifCond .eq 22, 3) := by decide +kernel
theorem dX10_wish_29 : decode cX10_wish 29 = .ok (.iload 6, 2) := by decide +kernel
theorem dX10_wish_31 : decode cX10_wish 31 = .ok (.invokestatic 224, 3) := by decide +kernel
theorem dX10_wish_34 : decode cX10_wish 34 = .ok (.ifCond .eq 14, 3) := by decide +kernel
theorem dX10_wish_37 : decode cX10_wish 37 = .ok (.iload_n 3, 1) := by decide +kernel
theorem dX10_wish_38 : decode cX10_wish 38 = .ok (.iload 5, 2) := by decide +kernel
theorem dX10_wish_40 : decode cX10_wish 40 = .ok (.iload 7, 2) := by decide +kernel
theorem dX10_wish_42 : decode cX10_wish 42 = .ok (.invokestatic 188, 3) := by decide +kernel
theorem dX10_wish_45 : decode cX10_wish 45 = .ok (.ifCond .ne 6, 3) := by decide +kernel
theorem dX10_wish_48 : decode cX10_wish 48 = .ok (.ldc 98, 2) := by decide +kernel
theorem dX10_wish_50 : decode cX10_wish 50 = .ok (.ireturn, 1) := by decide +kernel
theorem dX10_wish_51 : decode cX10_wish 51 = .ok (.aload_n 0, 1) := by decide +kernel
theorem dX10_wish_52 : decode cX10_wish 52 = .ok (.getfield 10, 3) := by decide +kernel
theorem dX10_wish_55 : decode cX10_wish 55 = .ok (.getfield 65, 3) := by decide +kernel
theorem dX10_wish_58 : decode cX10_wish 58 = .ok (.bipush 12, 2) := by decide +kernel
theorem dX10_wish_60 : decode cX10_wish 60 = .ok (.if_icmp .lt 6, 3) := by decide +kernel
theorem dX10_wish_63 : decode cX10_wish 63 = .ok (.ldc 211, 2) := by decide +kernel
theorem dX10_wish_65 : decode cX10_wish 65 = .ok (.ireturn, 1) := by decide +kernel
theorem dX10_wish_66 : decode cX10_wish 66 = .ok (.aload_n 0, 1) := by decide +kernel
theorem dX10_wish_67 : decode cX10_wish 67 = .ok (.getfield 33, 3) := by decide +kernel
theorem dX10_wish_70 : decode cX10_wish 70 = .ok (.aload_n 0, 1) := by decide +kernel
theorem dX10_wish_71 : decode cX10_wish 71 = .ok (.getfield 10, 3) := by decide +kernel
theorem dX10_wish_74 : decode cX10_wish 74 = .ok (.invokevirtual 212, 3) := by decide +kernel
theorem dX10_wish_77 : decode cX10_wish 77 = .ok (.aload_n 0, 1) := by decide +kernel
theorem dX10_wish_78 : decode cX10_wish 78 = .ok (.getfield 19, 3) := by decide +kernel
theorem dX10_wish_81 : decode cX10_wish 81 = .ok (.invokevirtual 215, 3) := by decide +kernel
theorem dX10_wish_84 : decode cX10_wish 84 = .ok (.iconst 0, 1) := by decide +kernel
theorem dX10_wish_85 : decode cX10_wish 85 = .ok (.iload_n 2, 1) := by decide +kernel
theorem dX10_wish_86 : decode cX10_wish 86 = .ok (.iload_n 3, 1) := by decide +kernel
theorem dX10_wish_87 : decode cX10_wish 87 = .ok (.invokestatic 227, 3) := by decide +kernel
theorem dX10_wish_90 : decode cX10_wish 90 = .ok (.istore 8, 2) := by decide +kernel
theorem dX10_wish_92 : decode cX10_wish 92 = .ok (.iload 8, 2) := by decide +kernel
theorem dX10_wish_94 : decode cX10_wish 94 = .ok (.iload 4, 2) := by decide +kernel
theorem dX10_wish_96 : decode cX10_wish 96 = .ok (.iload 5, 2) := by decide +kernel
theorem dX10_wish_98 : decode cX10_wish 98 = .ok (.invokestatic 227, 3) := by decide +kernel
theorem dX10_wish_101 : decode cX10_wish 101 = .ok (.istore 8, 2) := by decide +kernel
theorem dX10_wish_103 : decode cX10_wish 103 = .ok (.iload 8, 2) := by decide +kernel
theorem dX10_wish_105 : decode cX10_wish 105 = .ok (.iload 6, 2) := by decide +kernel
theorem dX10_wish_107 : decode cX10_wish 107 = .ok (.iload 7, 2) := by decide +kernel
theorem dX10_wish_109 : decode cX10_wish 109 = .ok (.invokestatic 227, 3) := by decide +kernel
theorem dX10_wish_112 : decode cX10_wish 112 = .ok (.istore 8, 2) := by decide +kernel
theorem dX10_wish_114 : decode cX10_wish 114 = .ok (.aload_n 0, 1) := by decide +kernel
theorem dX10_wish_115 : decode cX10_wish 115 = .ok (.getfield 10, 3) := by decide +kernel
theorem dX10_wish_118 : decode cX10_wish 118 = .ok (.iload_n 1, 1) := by decide +kernel
theorem dX10_wish_119 : decode cX10_wish 119 = .ok (.iload 8, 2) := by decide +kernel
theorem dX10_wish_121 : decode cX10_wish 121 = .ok (.invokevirtual 230, 3) := by decide +kernel
theorem dX10_wish_124 : decode cX10_wish 124 = .ok (.ireturn, 1) := by decide +kernel
theorem dX10_drop_0 : decode cX10_drop 0 = .ok (.aload_n 0, 1) := by decide +kernel
theorem dX10_drop_1 : decode cX10_drop 1 = .ok (.getfield 10, 3) := by decide +kernel
theorem dX10_drop_4 : decode cX10_drop 4 = .ok (.iload_n 1, 1) := by decide +kernel
theorem dX10_drop_5 : decode cX10_drop 5 = .ok (.invokevirtual 150, 3) := by decide +kernel
theorem dX10_drop_8 : decode cX10_drop 8 = .ok (.ifCond .ne 6, 3) := by decide +kernel
theorem dX10_drop_11 : decode cX10_drop 11 = .ok (.ldc 103, 2) := by decide +kernel
theorem dX10_drop_13 : decode cX10_drop 13 = .ok (.ireturn, 1) := by decide +kernel
theorem dX10_drop_14 : decode cX10_drop 14 = .ok (.aload_n 0, 1) := by decide +kernel
theorem dX10_drop_15 : decode cX10_drop 15 = .ok (.getfield 33, 3) := by decide +kernel
theorem dX10_drop_18 : decode cX10_drop 18 = .ok (.aload_n 0, 1) := by decide +kernel
theorem dX10_drop_19 : decode cX10_drop 19 = .ok (.getfield 10, 3) := by decide +kernel
theorem dX10_drop_22 : decode cX10_drop 22 = .ok (.invokevirtual 212, 3) := by decide +kernel
theorem dX10_drop_25 : decode cX10_drop 25 = .ok (.aload_n 0, 1) := by decide +kernel
theorem dX10_drop_26 : decode cX10_drop 26 = .ok (.getfield 19, 3) := by decide +kernel
theorem dX10_drop_29 : decode cX10_drop 29 = .ok (.invokevirtual 215, 3) := by decide +kernel
theorem dX10_drop_32 : decode cX10_drop 32 = .ok (.aload_n 0, 1) := by decide +kernel
theorem dX10_drop_33 : decode cX10_drop 33 = .ok (.getfield 10, 3) := by decide +kernel
theorem dX10_drop_36 : decode cX10_drop 36 = .ok (.iload_n 1, 1) := by decide +kernel
theorem dX10_drop_37 : decode cX10_drop 37 = .ok (.invokevirtual 233, 3) := by decide +kernel
theorem dX10_drop_40 : decode cX10_drop 40 = .ok (.aload_n 0, 1) := by decide +kernel
theorem dX10_drop_41 : decode cX10_drop 41 = .ok (.getfield 10, 3) := by decide +kernel
theorem dX10_drop_44 : decode cX10_drop 44 = .ok (.getfield 65, 3) := by decide +kernel
theorem dX10_drop_47 : decode cX10_drop 47 = .ok (.ireturn, 1) := by decide +kernel
theorem dX10_most_0 : decode cX10_most 0 = .ok (.iload_n 1, 1) := by decide +kernel
theorem dX10_most_1 : decode cX10_most 1 = .ok (.iconst 1, 1) := by decide +kernel
theorem dX10_most_2 : decode cX10_most 2 = .ok (.bipush 9, 2) := by decide +kernel
theorem dX10_most_4 : decode cX10_most 4 = .ok (.invokestatic 143, 3) := by decide +kernel
theorem dX10_most_7 : decode cX10_most 7 = .ok (.ifCond .ne 6, 3) := by decide +kernel
theorem dX10_most_10 : decode cX10_most 10 = .ok (.ldc 98, 2) := by decide +kernel
theorem dX10_most_12 : decode cX10_most 12 = .ok (.ireturn, 1) := by decide +kernel
theorem dX10_most_13 : decode cX10_most 13 = .ok (.aload_n 0, 1) := by decide +kernel
theorem dX10_most_14 : decode cX10_most 14 = .ok (.getfield 33, 3) := by decide +kernel
theorem dX10_most_17 : decode cX10_most 17 = .ok (.aload_n 0, 1) := by decide +kernel
theorem dX10_most_18 : decode cX10_most 18 = .ok (.getfield 10, 3) := by decide +kernel
theorem dX10_most_21 : decode cX10_most 21 = .ok (.invokevirtual 212, 3) := by decide +kernel
theorem dX10_most_24 : decode cX10_most 24 = .ok (.aload_n 0, 1) := by decide +kernel
theorem dX10_most_25 : decode cX10_most 25 = .ok (.getfield 19, 3) := by decide +kernel
theorem dX10_most_28 : decode cX10_most 28 = .ok (.invokevirtual 215, 3) := by decide +kernel
theorem dX10_most_31 : decode cX10_most 31 = .ok (.aload_n 0, 1) := by decide +kernel
theorem dX10_most_32 : decode cX10_most 32 = .ok (.getfield 10, 3) := by decide +kernel
theorem dX10_most_35 : decode cX10_most 35 = .ok (.getfield 68, 3) := by decide +kernel
theorem dX10_most_38 : decode cX10_most 38 = .ok (.istore_n 2, 1) := by decide +kernel
theorem dX10_most_39 : decode cX10_most 39 = .ok (.aload_n 0, 1) := by decide +kernel
theorem dX10_most_40 : decode cX10_most 40 = .ok (.getfield 10, 3) := by decide +kernel
theorem dX10_most_43 : decode cX10_most 43 = .ok (.iload_n 1, 1) := by decide +kernel
theorem dX10_most_44 : decode cX10_most 44 = .ok (.putfield 68, 3) := by decide +kernel
theorem dX10_most_47 : decode cX10_most 47 = .ok (.iload_n 2, 1) := by decide +kernel
theorem dX10_most_48 : decode cX10_most 48 = .ok (.ireturn, 1) := by decide +kernel
theorem dX10_put_0 : decode cX10_put 0 = .ok (.aload_n 0, 1) := by decide +kernel
theorem dX10_put_1 : decode cX10_put 1 = .ok (.getfield 10, 3) := by decide +kernel
theorem dX10_put_4 : decode cX10_put 4 = .ok (.iload_n 1, 1) := by decide +kernel
theorem dX10_put_5 : decode cX10_put 5 = .ok (.invokevirtual 99, 3) := by decide +kernel
theorem dX10_put_8 : decode cX10_put 8 = .ok (.ifCond .ne 6, 3) := by decide +kernel
theorem dX10_put_11 : decode cX10_put 11 = .ok (.ldc 103, 2) := by decide +kernel
theorem dX10_put_13 : decode cX10_put 13 = .ok (.ireturn, 1) := by decide +kernel
theorem dX10_put_14 : decode cX10_put 14 = .ok (.iload_n 2, 1) := by decide +kernel
theorem dX10_put_15 : decode cX10_put 15 = .ok (.iload_n 3, 1) := by decide +kernel
theorem dX10_put_16 : decode cX10_put 16 = .ok (.iload 4, 2) := by decide +kernel
theorem dX10_put_18 : decode cX10_put 18 = .ok (.invokestatic 188, 3) := by decide +kernel
theorem dX10_put_21 : decode cX10_put 21 = .ok (.ifCond .ne 6, 3) := by decide +kernel
theorem dX10_put_24 : decode cX10_put 24 = .ok (.ldc 98, 2) := by decide +kernel
theorem dX10_put_26 : decode cX10_put 26 = .ok (.ireturn, 1) := by decide +kernel
theorem dX10_put_27 : decode cX10_put 27 = .ok (.aload_n 0, 1) := by decide +kernel
theorem dX10_put_28 : decode cX10_put 28 = .ok (.getfield 19, 3) := by decide +kernel
theorem dX10_put_31 : decode cX10_put 31 = .ok (.aload_n 0, 1) := by decide +kernel
theorem dX10_put_32 : decode cX10_put 32 = .ok (.getfield 10, 3) := by decide +kernel
theorem dX10_put_35 : decode cX10_put 35 = .ok (.invokevirtual 74, 3) := by decide +kernel
theorem dX10_put_38 : decode cX10_put 38 = .ok (.aload_n 0, 1) := by decide +kernel
theorem dX10_put_39 : decode cX10_put 39 = .ok (.iload_n 1, 1) := by decide +kernel
theorem dX10_put_40 : decode cX10_put 40 = .ok (.iload_n 2, 1) := by decide +kernel
theorem dX10_put_41 : decode cX10_put 41 = .ok (.iload_n 3, 1) := by decide +kernel
theorem dX10_put_42 : decode cX10_put 42 = .ok (.iload 4, 2) := by decide +kernel
theorem dX10_put_44 : decode cX10_put 44 = .ok (.invokestatic 191, 3) := by decide +kernel
theorem dX10_put_47 : decode cX10_put 47 = .ok (.invokevirtual 237, 3) := by decide +kernel
theorem dX10_put_50 : decode cX10_put 50 = .ok (.ireturn, 1) := by decide +kernel
theorem dX10_leave_0 : decode cX10_leave 0 = .ok (.aload_n 0, 1) := by decide +kernel
theorem dX10_leave_1 : decode cX10_leave 1 = .ok (.getfield 10, 3) := by decide +kernel
theorem dX10_leave_4 : decode cX10_leave 4 = .ok (.iload_n 1, 1) := by decide +kernel
theorem dX10_leave_5 : decode cX10_leave 5 = .ok (.invokevirtual 118, 3) := by decide +kernel
theorem dX10_leave_8 : decode cX10_leave 8 = .ok (.ifCond .ne 6, 3) := by decide +kernel
theorem dX10_leave_11 : decode cX10_leave 11 = .ok (.ldc 103, 2) := by decide +kernel
theorem dX10_leave_13 : decode cX10_leave 13 = .ok (.ireturn, 1) := by decide +kernel
theorem dX10_leave_14 : decode cX10_leave 14 = .ok (.aload_n 0, 1) := by decide +kernel
theorem dX10_leave_15 : decode cX10_leave 15 = .ok (.getfield 10, 3) := by decide +kernel
theorem dX10_leave_18 : decode cX10_leave 18 = .ok (.getfield 121, 3) := by decide +kernel
theorem dX10_leave_21 : decode cX10_leave 21 = .ok (.iload_n 1, 1) := by decide +kernel
theorem dX10_leave_22 : decode cX10_leave 22 = .ok (.aaload, 1) := by decide +kernel
theorem dX10_leave_23 : decode cX10_leave 23 = .ok (.astore_n 2, 1) := by decide +kernel
theorem dX10_leave_24 : decode cX10_leave 24 = .ok (.aload_n 2, 1) := by decide +kernel
theorem dX10_leave_25 : decode cX10_leave 25 = .ok (.getfield 130, 3) := by decide +kernel
theorem dX10_leave_28 : decode cX10_leave 28 = .ok (.ifCond .ne 6, 3) := by decide +kernel
theorem dX10_leave_31 : decode cX10_leave 31 = .ok (.ldc 240, 2) := by decide +kernel
theorem dX10_leave_33 : decode cX10_leave 33 = .ok (.ireturn, 1) := by decide +kernel
theorem dX10_leave_34 : decode cX10_leave 34 = .ok (.aload_n 0, 1) := by decide +kernel
theorem dX10_leave_35 : decode cX10_leave 35 = .ok (.getfield 33, 3) := by decide +kernel
theorem dX10_leave_38 : decode cX10_leave 38 = .ok (.aload_n 0, 1) := by decide +kernel
theorem dX10_leave_39 : decode cX10_leave 39 = .ok (.getfield 10, 3) := by decide +kernel
theorem dX10_leave_42 : decode cX10_leave 42 = .ok (.invokevirtual 212, 3) := by decide +kernel
theorem dX10_leave_45 : decode cX10_leave 45 = .ok (.aload_n 2, 1) := by decide +kernel
theorem dX10_leave_46 : decode cX10_leave 46 = .ok (.iconst 0, 1) := by decide +kernel
theorem dX10_leave_47 : decode cX10_leave 47 = .ok (.putfield 130, 3) := by decide +kernel
theorem dX10_leave_50 : decode cX10_leave 50 = .ok (.aload_n 2, 1) := by decide +kernel
theorem dX10_leave_51 : decode cX10_leave 51 = .ok (.getfield 125, 3) := by decide +kernel
theorem dX10_leave_54 : decode cX10_leave 54 = .ok (.ireturn, 1) := by decide +kernel
theorem dX10_come_0 : decode cX10_come 0 = .ok (.aload_n 0, 1) := by decide +kernel
theorem dX10_come_1 : decode cX10_come 1 = .ok (.getfield 10, 3) := by decide +kernel
theorem dX10_come_4 : decode cX10_come 4 = .ok (.iload_n 1, 1) := by decide +kernel
theorem dX10_come_5 : decode cX10_come 5 = .ok (.invokevirtual 118, 3) := by decide +kernel
theorem dX10_come_8 : decode cX10_come 8 = .ok (.ifCond .eq 14, 3) := by decide +kernel
theorem dX10_come_11 : decode cX10_come 11 = .ok (.aload_n 0, 1) := by decide +kernel
theorem dX10_come_12 : decode cX10_come 12 = .ok (.getfield 10, 3) := by decide +kernel
theorem dX10_come_15 : decode cX10_come 15 = .ok (.iload_n 2, 1) := by decide +kernel
theorem dX10_come_16 : decode cX10_come 16 = .ok (.invokevirtual 99, 3) := by decide +kernel
theorem dX10_come_19 : decode cX10_come 19 = .ok (.ifCond .ne 6, 3) := by decide +kernel
theorem dX10_come_22 : decode cX10_come 22 = .ok (.ldc 103, 2) := by decide +kernel
theorem dX10_come_24 : decode cX10_come 24 = .ok (.ireturn, 1) := by decide +kernel
theorem dX10_come_25 : decode cX10_come 25 = .ok (.aload_n 0, 1) := by decide +kernel
theorem dX10_come_26 : decode cX10_come 26 = .ok (.getfield 10, 3) := by decide +kernel
theorem dX10_come_29 : decode cX10_come 29 = .ok (.getfield 121, 3) := by decide +kernel
theorem dX10_come_32 : decode cX10_come 32 = .ok (.iload_n 1, 1) := by decide +kernel
theorem dX10_come_33 : decode cX10_come 33 = .ok (.aaload, 1) := by decide +kernel
theorem dX10_come_34 : decode cX10_come 34 = .ok (.astore_n 3, 1) := by decide +kernel
theorem dX10_come_35 : decode cX10_come 35 = .ok (.aload_n 3, 1) := by decide +kernel
theorem dX10_come_36 : decode cX10_come 36 = .ok (.getfield 130, 3) := by decide +kernel
theorem dX10_come_39 : decode cX10_come 39 = .ok (.ifCond .eq 6, 3) := by decide +kernel
theorem dX10_come_42 : decode cX10_come 42 = .ok (.ldc 240, 2) := by decide +kernel
theorem dX10_come_44 : decode cX10_come 44 = .ok (.ireturn, 1) := by decide +kernel
theorem dX10_come_45 : decode cX10_come 45 = .ok (.aload_n 0, 1) := by decide +kernel
theorem dX10_come_46 : decode cX10_come 46 = .ok (.getfield 33, 3) := by decide +kernel
theorem dX10_come_49 : decode cX10_come 49 = .ok (.aload_n 0, 1) := by decide +kernel
theorem dX10_come_50 : decode cX10_come 50 = .ok (.getfield 10, 3) := by decide +kernel
theorem dX10_come_53 : decode cX10_come 53 = .ok (.invokevirtual 212, 3) := by decide +kernel
theorem dX10_come_56 : decode cX10_come 56 = .ok (.aload_n 0, 1) := by decide +kernel
theorem dX10_come_57 : decode cX10_come 57 = .ok (.getfield 19, 3) := by decide +kernel
theorem dX10_come_60 : decode cX10_come 60 = .ok (.invokevirtual 215, 3) := by decide +kernel
theorem dX10_come_63 : decode cX10_come 63 = .ok (.aload_n 3, 1) := by decide +kernel
theorem dX10_come_64 : decode cX10_come 64 = .ok (.iload_n 2, 1) := by decide +kernel
theorem dX10_come_65 : decode cX10_come 65 = .ok (.invokevirtual 241, 3) := by decide +kernel
theorem dX10_come_68 : decode cX10_come 68 = .ok (.ireturn, 1) := by decide +kernel
theorem dX10_part_0 : decode cX10_part 0 = .ok (.aload_n 0, 1) := by decide +kernel
theorem dX10_part_1 : decode cX10_part 1 = .ok (.getfield 10, 3) := by decide +kernel
theorem dX10_part_4 : decode cX10_part 4 = .ok (.getfield 62, 3) := by decide +kernel
theorem dX10_part_7 : decode cX10_part 7 = .ok (.ifCond .gt 6, 3) := by decide +kernel
theorem dX10_part_10 : decode cX10_part 10 = .ok (.ldc 240, 2) := by decide +kernel
theorem dX10_part_12 : decode cX10_part 12 = .ok (.ireturn, 1) := by decide +kernel
theorem dX10_part_13 : decode cX10_part 13 = .ok (.aload_n 0, 1) := by decide +kernel
theorem dX10_part_14 : decode cX10_part 14 = .ok (.getfield 33, 3) := by decide +kernel
theorem dX10_part_17 : decode cX10_part 17 = .ok (.aload_n 0, 1) := by decide +kernel
theorem dX10_part_18 : decode cX10_part 18 = .ok (.getfield 10, 3) := by decide +kernel
theorem dX10_part_21 : decode cX10_part 21 = .ok (.invokevirtual 212, 3) := by decide +kernel
theorem dX10_part_24 : decode cX10_part 24 = .ok (.aload_n 0, 1) := by decide +kernel
theorem dX10_part_25 : decode cX10_part 25 = .ok (.getfield 19, 3) := by decide +kernel
theorem dX10_part_28 : decode cX10_part 28 = .ok (.invokevirtual 215, 3) := by decide +kernel
theorem dX10_part_31 : decode cX10_part 31 = .ok (.aload_n 0, 1) := by decide +kernel
theorem dX10_part_32 : decode cX10_part 32 = .ok (.getfield 10, 3) := by decide +kernel
theorem dX10_part_35 : decode cX10_part 35 = .ok (.invokevirtual 244, 3) := by decide +kernel
theorem dX10_part_38 : decode cX10_part 38 = .ok (.aload_n 0, 1) := by decide +kernel
theorem dX10_part_39 : decode cX10_part 39 = .ok (.getfield 10, 3) := by decide +kernel
theorem dX10_part_42 : decode cX10_part 42 = .ok (.getfield 62, 3) := by decide +kernel
theorem dX10_part_45 : decode cX10_part 45 = .ok (.ireturn, 1) := by decide +kernel
theorem dX10_drift_0 : decode cX10_drift 0 = .ok (.iload_n 1, 1) := by decide +kernel
theorem dX10_drift_1 : decode cX10_drift 1 = .ok (.iconst 1, 1) := by decide +kernel
theorem dX10_drift_2 : decode cX10_drift 2 = .ok (.bipush 8, 2) := by decide +kernel
theorem dX10_drift_4 : decode cX10_drift 4 = .ok (.invokestatic 143, 3) := by decide +kernel
theorem dX10_drift_7 : decode cX10_drift 7 = .ok (.ifCond .ne 6, 3) := by decide +kernel
theorem dX10_drift_10 : decode cX10_drift 10 = .ok (.ldc 98, 2) := by decide +kernel
theorem dX10_drift_12 : decode cX10_drift 12 = .ok (.ireturn, 1) := by decide +kernel
theorem dX10_drift_13 : decode cX10_drift 13 = .ok (.aload_n 0, 1) := by decide +kernel
theorem dX10_drift_14 : decode cX10_drift 14 = .ok (.getfield 19, 3) := by decide +kernel
theorem dX10_drift_17 : decode cX10_drift 17 = .ok (.aload_n 0, 1) := by decide +kernel
theorem dX10_drift_18 : decode cX10_drift 18 = .ok (.getfield 10, 3) := by decide +kernel
theorem dX10_drift_21 : decode cX10_drift 21 = .ok (.invokevirtual 74, 3) := by decide +kernel
theorem dX10_drift_24 : decode cX10_drift 24 = .ok (.iconst 0, 1) := by decide +kernel
theorem dX10_drift_25 : decode cX10_drift 25 = .ok (.istore_n 2, 1) := by decide +kernel
theorem dX10_drift_26 : decode cX10_drift 26 = .ok (.iload_n 2, 1) := by decide +kernel
theorem dX10_drift_27 : decode cX10_drift 27 = .ok (.iload_n 1, 1) := by decide +kernel
theorem dX10_drift_28 : decode cX10_drift 28 = .ok (.if_icmp .ge 72, 3) := by decide +kernel
theorem dX10_drift_31 : decode cX10_drift 31 = .ok (.aload_n 0, 1) := by decide +kernel
theorem dX10_drift_32 : decode cX10_drift 32 = .ok (.getfield 47, 3) := by decide +kernel
theorem dX10_drift_35 : decode cX10_drift 35 = .ok (.aload_n 0, 1) := by decide +kernel
theorem dX10_drift_36 : decode cX10_drift 36 = .ok (.getfield 10, 3) := by decide +kernel
theorem dX10_drift_39 : decode cX10_drift 39 = .ok (.getfield 58, 3) := by decide +kernel
theorem dX10_drift_42 : decode cX10_drift 42 = .ok (.invokevirtual 247, 3) := by decide +kernel
theorem dX10_drift_45 : decode cX10_drift 45 = .ok (.istore_n 3, 1) := by decide +kernel
theorem dX10_drift_46 : decode cX10_drift 46 = .ok (.aload_n 0, 1) := by decide +kernel
theorem dX10_drift_47 : decode cX10_drift 47 = .ok (.getfield 47, 3) := by decide +kernel
theorem dX10_drift_50 : decode cX10_drift 50 = .ok (.bipush 10, 2) := by decide +kernel
theorem dX10_drift_52 : decode cX10_drift 52 = .ok (.invokevirtual 247, 3) := by decide +kernel
theorem dX10_drift_55 : decode cX10_drift 55 = .ok (.istore 4, 2) := by decide +kernel
theorem dX10_drift_57 : decode cX10_drift 57 = .ok (.aload_n 0, 1) := by decide +kernel
theorem dX10_drift_58 : decode cX10_drift 58 = .ok (.getfield 47, 3) := by decide +kernel
theorem dX10_drift_61 : decode cX10_drift 61 = .ok (.bipush 10, 2) := by decide +kernel
theorem dX10_drift_63 : decode cX10_drift 63 = .ok (.invokevirtual 247, 3) := by decide +kernel
theorem dX10_drift_66 : decode cX10_drift 66 = .ok (.istore 5, 2) := by decide +kernel
theorem dX10_drift_68 : decode cX10_drift 68 = .ok (.aload_n 0, 1) := by decide +kernel
theorem dX10_drift_69 : decode cX10_drift 69 = .ok (.getfield 47, 3) := by decide +kernel
theorem dX10_drift_72 : decode cX10_drift 72 = .ok (.bipush 10, 2) := by decide +kernel
theorem dX10_drift_74 : decode cX10_drift 74 = .ok (.invokevirtual 247, 3) := by decide +kernel
theorem dX10_drift_77 : decode cX10_drift 77 = .ok (.istore 6, 2) := by decide +kernel
theorem dX10_drift_79 : decode cX10_drift 79 = .ok (.aload_n 0, 1) := by decide +kernel
theorem dX10_drift_80 : decode cX10_drift 80 = .ok (.iload_n 3, 1) := by decide +kernel
theorem dX10_drift_81 : decode cX10_drift 81 = .ok (.iload 4, 2) := by decide +kernel
theorem dX10_drift_83 : decode cX10_drift 83 = .ok (.iload 5, 2) := by decide +kernel
theorem dX10_drift_85 : decode cX10_drift 85 = .ok (.iload 6, 2) := by decide +kernel
theorem dX10_drift_87 : decode cX10_drift 87 = .ok (.invokestatic 191, 3) := by decide +kernel
theorem dX10_drift_90 : decode cX10_drift 90 = .ok (.invokevirtual 237, 3) := by decide +kernel
theorem dX10_drift_93 : decode cX10_drift 93 = .ok (.pop, 1) := by decide +kernel
theorem dX10_drift_94 : decode cX10_drift 94 = .ok (.iinc 2 1, 3) := by decide +kernel
theorem dX10_drift_97 : decode cX10_drift 97 = .ok (.goto (-71), 3) := by decide +kernel
theorem dX10_drift_100 : decode cX10_drift 100 = .ok (.aload_n 0, 1) := by decide +kernel
theorem dX10_drift_101 : decode cX10_drift 101 = .ok (.getfield 10, 3) := by decide +kernel
theorem dX10_drift_104 : decode cX10_drift 104 = .ok (.getfield 71, 3) := by decide +kernel
theorem dX10_drift_107 : decode cX10_drift 107 = .ok (.ireturn, 1) := by decide +kernel
theorem dX10_undo_0 : decode cX10_undo 0 = .ok (.iload_n 1, 1) := by decide +kernel
theorem dX10_undo_1 : decode cX10_undo 1 = .ok (.iconst 1, 1) := by decide +kernel
theorem dX10_undo_2 : decode cX10_undo 2 = .ok (.bipush 16, 2) := by decide +kernel
theorem dX10_undo_4 : decode cX10_undo 4 = .ok (.invokestatic 143, 3) := by decide +kernel
theorem dX10_undo_7 : decode cX10_undo 7 = .ok (.ifCond .ne 6, 3) := by decide +kernel
theorem dX10_undo_10 : decode cX10_undo 10 = .ok (.ldc 98, 2) := by decide +kernel
theorem dX10_undo_12 : decode cX10_undo 12 = .ok (.ireturn, 1) := by decide +kernel
theorem dX10_undo_13 : decode cX10_undo 13 = .ok (.iload_n 1, 1) := by decide +kernel
theorem dX10_undo_14 : decode cX10_undo 14 = .ok (.aload_n 0, 1) := by decide +kernel
theorem dX10_undo_15 : decode cX10_undo 15 = .ok (.getfield 33, 3) := by decide +kernel
theorem dX10_undo_18 : decode cX10_undo 18 = .ok (.getfield 94, 3) := by decide +kernel
theorem dX10_undo_21 : decode cX10_undo 21 = .ok (.if_icmp .le 6, 3) := by decide +kernel
theorem dX10_undo_24 : decode cX10_undo 24 = .ok (.ldc 240, 2) := by decide +kernel
theorem dX10_undo_26 : decode cX10_undo 26 = .ok (.ireturn, 1) := by decide +kernel
theorem dX10_undo_27 : decode cX10_undo 27 = .ok (.aload_n 0, 1) := by decide +kernel
theorem dX10_undo_28 : decode cX10_undo 28 = .ok (.getfield 33, 3) := by decide +kernel
theorem dX10_undo_31 : decode cX10_undo 31 = .ok (.aload_n 0, 1) := by decide +kernel
theorem dX10_undo_32 : decode cX10_undo 32 = .ok (.getfield 10, 3) := by decide +kernel
theorem dX10_undo_35 : decode cX10_undo 35 = .ok (.iload_n 1, 1) := by decide +kernel
theorem dX10_undo_36 : decode cX10_undo 36 = .ok (.invokevirtual 250, 3) := by decide +kernel
theorem dX10_undo_39 : decode cX10_undo 39 = .ok (.aload_n 0, 1) := by decide +kernel
theorem dX10_undo_40 : decode cX10_undo 40 = .ok (.getfield 19, 3) := by decide +kernel
theorem dX10_undo_43 : decode cX10_undo 43 = .ok (.invokevirtual 215, 3) := by decide +kernel
theorem dX10_undo_46 : decode cX10_undo 46 = .ok (.aload_n 0, 1) := by decide +kernel
theorem dX10_undo_47 : decode cX10_undo 47 = .ok (.getfield 33, 3) := by decide +kernel
theorem dX10_undo_50 : decode cX10_undo 50 = .ok (.getfield 94, 3) := by decide +kernel
theorem dX10_undo_53 : decode cX10_undo 53 = .ok (.ireturn, 1) := by decide +kernel
theorem dX10_write_0 : decode cX10_write 0 = .ok (.aload_n 0, 1) := by decide +kernel
theorem dX10_write_1 : decode cX10_write 1 = .ok (.getfield 10, 3) := by decide +kernel
theorem dX10_write_4 : decode cX10_write 4 = .ok (.iload_n 1, 1) := by decide +kernel
theorem dX10_write_5 : decode cX10_write 5 = .ok (.invokevirtual 118, 3) := by decide +kernel
theorem dX10_write_8 : decode cX10_write 8 = .ok (.ifCond .ne 6, 3) := by decide +kernel
theorem dX10_write_11 : decode cX10_write 11 = .ok (.ldc 103, 2) := by decide +kernel
theorem dX10_write_13 : decode cX10_write 13 = .ok (.ireturn, 1) := by decide +kernel
theorem dX10_write_14 : decode cX10_write 14 = .ok (.aload_n 0, 1) := by decide +kernel
theorem dX10_write_15 : decode cX10_write 15 = .ok (.getfield 40, 3) := by decide +kernel
theorem dX10_write_18 : decode cX10_write 18 = .ok (.getfield 88, 3) := by decide +kernel
theorem dX10_write_21 : decode cX10_write 21 = .ok (.bipush 20, 2) := by decide +kernel
theorem dX10_write_23 : decode cX10_write 23 = .ok (.if_icmp .lt 6, 3) := by decide +kernel
theorem dX10_write_26 : decode cX10_write 26 = .ok (.ldc 211, 2) := by decide +kernel
theorem dX10_write_28 : decode cX10_write 28 = .ok (.ireturn, 1) := by decide +kernel
theorem dX10_write_29 : decode cX10_write 29 = .ok (.aload_n 0, 1) := by decide +kernel
theorem dX10_write_30 : decode cX10_write 30 = .ok (.getfield 40, 3) := by decide +kernel
theorem dX10_write_33 : decode cX10_write 33 = .ok (.iload_n 1, 1) := by decide +kernel
theorem dX10_write_34 : decode cX10_write 34 = .ok (.iload_n 2, 1) := by decide +kernel
theorem dX10_write_35 : decode cX10_write 35 = .ok (.invokevirtual 254, 3) := by decide +kernel
theorem dX10_write_38 : decode cX10_write 38 = .ok (.aload_n 0, 1) := by decide +kernel
theorem dX10_write_39 : decode cX10_write 39 = .ok (.getfield 40, 3) := by decide +kernel
theorem dX10_write_42 : decode cX10_write 42 = .ok (.getfield 88, 3) := by decide +kernel
theorem dX10_write_45 : decode cX10_write 45 = .ok (.ireturn, 1) := by decide +kernel
theorem dX10_tear_0 : decode cX10_tear 0 = .ok (.aload_n 0, 1) := by decide +kernel
theorem dX10_tear_1 : decode cX10_tear 1 = .ok (.getfield 40, 3) := by decide +kernel
theorem dX10_tear_4 : decode cX10_tear 4 = .ok (.getfield 88, 3) := by decide +kernel
theorem dX10_tear_7 : decode cX10_tear 7 = .ok (.istore_n 1, 1) := by decide +kernel
theorem dX10_tear_8 : decode cX10_tear 8 = .ok (.aload_n 0, 1) := by decide +kernel
theorem dX10_tear_9 : decode cX10_tear 9 = .ok (.getfield 40, 3) := by decide +kernel
theorem dX10_tear_12 : decode cX10_tear 12 = .ok (.iconst 0, 1) := by decide +kernel
theorem dX10_tear_13 : decode cX10_tear 13 = .ok (.putfield 88, 3) := by decide +kernel
theorem dX10_tear_16 : decode cX10_tear 16 = .ok (.iload_n 1, 1) := by decide +kernel
theorem dX10_tear_17 : decode cX10_tear 17 = .ok (.ireturn, 1) := by decide +kernel
theorem dX10_seed_0 : decode cX10_seed 0 = .ok (.iload_n 1, 1) := by decide +kernel
theorem dX10_seed_1 : decode cX10_seed 1 = .ok (.ifCond .ge 6, 3) := by decide +kernel
theorem dX10_seed_4 : decode cX10_seed 4 = .ok (.ldc 98, 2) := by decide +kernel
theorem dX10_seed_6 : decode cX10_seed 6 = .ok (.ireturn, 1) := by decide +kernel
theorem dX10_seed_7 : decode cX10_seed 7 = .ok (.aload_n 0, 1) := by decide +kernel
theorem dX10_seed_8 : decode cX10_seed 8 = .ok (.getfield 47, 3) := by decide +kernel
theorem dX10_seed_11 : decode cX10_seed 11 = .ok (.getfield 95, 3) := by decide +kernel
theorem dX10_seed_14 : decode cX10_seed 14 = .ok (.istore_n 2, 1) := by decide +kernel
theorem dX10_seed_15 : decode cX10_seed 15 = .ok (.aload_n 0, 1) := by decide +kernel
theorem dX10_seed_16 : decode cX10_seed 16 = .ok (.getfield 47, 3) := by decide +kernel
theorem dX10_seed_19 : decode cX10_seed 19 = .ok (.iload_n 1, 1) := by decide +kernel
theorem dX10_seed_20 : decode cX10_seed 20 = .ok (.putfield 95, 3) := by decide +kernel
theorem dX10_seed_23 : decode cX10_seed 23 = .ok (.iload_n 2, 1) := by decide +kernel
theorem dX10_seed_24 : decode cX10_seed 24 = .ok (.ireturn, 1) := by decide +kernel
theorem dX10_keep_0 : decode cX10_keep 0 = .ok (.iload_n 1, 1) := by decide +kernel
theorem dX10_keep_1 : decode cX10_keep 1 = .ok (.iconst 0, 1) := by decide +kernel
theorem dX10_keep_2 : decode cX10_keep 2 = .ok (.iconst 1, 1) := by decide +kernel
theorem dX10_keep_3 : decode cX10_keep 3 = .ok (.invokestatic 143, 3) := by decide +kernel
theorem dX10_keep_6 : decode cX10_keep 6 = .ok (.ifCond .ne 6, 3) := by decide +kernel
theorem dX10_keep_9 : decode cX10_keep 9 = .ok (.ldc 103, 2) := by decide +kernel
theorem dX10_keep_11 : decode cX10_keep 11 = .ok (.ireturn, 1) := by decide +kernel
theorem dX10_keep_12 : decode cX10_keep 12 = .ok (.aload_n 0, 1) := by decide +kernel
theorem dX10_keep_13 : decode cX10_keep 13 = .ok (.getfield 53, 3) := by decide +kernel
theorem dX10_keep_16 : decode cX10_keep 16 = .ok (.iload_n 1, 1) := by decide +kernel
theorem dX10_keep_17 : decode cX10_keep 17 = .ok (.aaload, 1) := by decide +kernel
theorem dX10_keep_18 : decode cX10_keep 18 = .ok (.aload_n 0, 1) := by decide +kernel
theorem dX10_keep_19 : decode cX10_keep 19 = .ok (.getfield 10, 3) := by decide +kernel
theorem dX10_keep_22 : decode cX10_keep 22 = .ok (.aload_n 0, 1) := by decide +kernel
theorem dX10_keep_23 : decode cX10_keep 23 = .ok (.getfield 47, 3) := by decide +kernel
theorem dX10_keep_26 : decode cX10_keep 26 = .ok (.invokevirtual 258, 3) := by decide +kernel
theorem dX10_keep_29 : decode cX10_keep 29 = .ok (.aload_n 0, 1) := by decide +kernel
theorem dX10_keep_30 : decode cX10_keep 30 = .ok (.getfield 33, 3) := by decide +kernel
theorem dX10_keep_33 : decode cX10_keep 33 = .ok (.invokevirtual 262, 3) := by decide +kernel
theorem dX10_keep_36 : decode cX10_keep 36 = .ok (.iconst 1, 1) := by decide +kernel
theorem dX10_keep_37 : decode cX10_keep 37 = .ok (.ireturn, 1) := by decide +kernel
theorem dX10_goBack_0 : decode cX10_goBack 0 = .ok (.iload_n 1, 1) := by decide +kernel
theorem dX10_goBack_1 : decode cX10_goBack 1 = .ok (.iconst 0, 1) := by decide +kernel
theorem dX10_goBack_2 : decode cX10_goBack 2 = .ok (.iconst 1, 1) := by decide +kernel
theorem dX10_goBack_3 : decode cX10_goBack 3 = .ok (.invokestatic 143, 3) := by decide +kernel
theorem dX10_goBack_6 : decode cX10_goBack 6 = .ok (.ifCond .ne 6, 3) := by decide +kernel
theorem dX10_goBack_9 : decode cX10_goBack 9 = .ok (.ldc 103, 2) := by decide +kernel
theorem dX10_goBack_11 : decode cX10_goBack 11 = .ok (.ireturn, 1) := by decide +kernel
theorem dX10_goBack_12 : decode cX10_goBack 12 = .ok (.aload_n 0, 1) := by decide +kernel
theorem dX10_goBack_13 : decode cX10_goBack 13 = .ok (.getfield 53, 3) := by decide +kernel
theorem dX10_goBack_16 : decode cX10_goBack 16 = .ok (.iload_n 1, 1) := by decide +kernel
theorem dX10_goBack_17 : decode cX10_goBack 17 = .ok (.aaload, 1) := by decide +kernel
theorem dX10_goBack_18 : decode cX10_goBack 18 = .ok (.getfield 265, 3) := by decide +kernel
theorem dX10_goBack_21 : decode cX10_goBack 21 = .ok (.ifCond .ne 6, 3) := by decide +kernel
theorem dX10_goBack_24 : decode cX10_goBack 24 = .ok (.ldc 240, 2) := by decide +kernel
theorem dX10_goBack_26 : decode cX10_goBack 26 = .ok (.ireturn, 1) := by decide +kernel
theorem dX10_goBack_27 : decode cX10_goBack 27 = .ok (.aload_n 0, 1) := by decide +kernel
theorem dX10_goBack_28 : decode cX10_goBack 28 = .ok (.getfield 53, 3) := by decide +kernel
theorem dX10_goBack_31 : decode cX10_goBack 31 = .ok (.iload_n 1, 1) := by decide +kernel
theorem dX10_goBack_32 : decode cX10_goBack 32 = .ok (.aaload, 1) := by decide +kernel
theorem dX10_goBack_33 : decode cX10_goBack 33 = .ok (.aload_n 0, 1) := by decide +kernel
theorem dX10_goBack_34 : decode cX10_goBack 34 = .ok (.getfield 10, 3) := by decide +kernel
theorem dX10_goBack_37 : decode cX10_goBack 37 = .ok (.aload_n 0, 1) := by decide +kernel
theorem dX10_goBack_38 : decode cX10_goBack 38 = .ok (.getfield 47, 3) := by decide +kernel
theorem dX10_goBack_41 : decode cX10_goBack 41 = .ok (.invokevirtual 268, 3) := by decide +kernel
theorem dX10_goBack_44 : decode cX10_goBack 44 = .ok (.aload_n 0, 1) := by decide +kernel
theorem dX10_goBack_45 : decode cX10_goBack 45 = .ok (.getfield 33, 3) := by decide +kernel
theorem dX10_goBack_48 : decode cX10_goBack 48 = .ok (.invokevirtual 262, 3) := by decide +kernel
theorem dX10_goBack_51 : decode cX10_goBack 51 = .ok (.aload_n 0, 1) := by decide +kernel
theorem dX10_goBack_52 : decode cX10_goBack 52 = .ok (.getfield 19, 3) := by decide +kernel
theorem dX10_goBack_55 : decode cX10_goBack 55 = .ok (.invokevirtual 215, 3) := by decide +kernel
theorem dX10_goBack_58 : decode cX10_goBack 58 = .ok (.iconst 1, 1) := by decide +kernel
theorem dX10_goBack_59 : decode cX10_goBack 59 = .ok (.ireturn, 1) := by decide +kernel
theorem dX10_deliver_0 : decode cX10_deliver 0 = .ok (.aload_n 0, 1) := by decide +kernel
theorem dX10_deliver_1 : decode cX10_deliver 1 = .ok (.getfield 33, 3) := by decide +kernel
theorem dX10_deliver_4 : decode cX10_deliver 4 = .ok (.aload_n 0, 1) := by decide +kernel
theorem dX10_deliver_5 : decode cX10_deliver 5 = .ok (.getfield 10, 3) := by decide +kernel
theorem dX10_deliver_8 : decode cX10_deliver 8 = .ok (.invokevirtual 212, 3) := by decide +kernel
theorem dX10_deliver_11 : decode cX10_deliver 11 = .ok (.aload_n 0, 1) := by decide +kernel
theorem dX10_deliver_12 : decode cX10_deliver 12 = .ok (.getfield 26, 3) := by decide +kernel
theorem dX10_deliver_15 : decode cX10_deliver 15 = .ok (.aload_n 0, 1) := by decide +kernel
theorem dX10_deliver_16 : decode cX10_deliver 16 = .ok (.getfield 10, 3) := by decide +kernel
theorem dX10_deliver_19 : decode cX10_deliver 19 = .ok (.aload_n 0, 1) := by decide +kernel
theorem dX10_deliver_20 : decode cX10_deliver 20 = .ok (.getfield 19, 3) := by decide +kernel
theorem dX10_deliver_23 : decode cX10_deliver 23 = .ok (.iload_n 1, 1) := by decide +kernel
theorem dX10_deliver_24 : decode cX10_deliver 24 = .ok (.iload_n 2, 1) := by decide +kernel
theorem dX10_deliver_25 : decode cX10_deliver 25 = .ok (.invokevirtual 195, 3) := by decide +kernel
theorem dX10_deliver_28 : decode cX10_deliver 28 = .ok (.aload_n 0, 1) := by decide +kernel
theorem dX10_deliver_29 : decode cX10_deliver 29 = .ok (.getfield 10, 3) := by decide +kernel
theorem dX10_deliver_32 : decode cX10_deliver 32 = .ok (.aload_n 0, 1) := by decide +kernel
theorem dX10_deliver_33 : decode cX10_deliver 33 = .ok (.getfield 26, 3) := by decide +kernel
theorem dX10_deliver_36 : decode cX10_deliver 36 = .ok (.invokevirtual 271, 3) := by decide +kernel
theorem dX10_deliver_39 : decode cX10_deliver 39 = .ok (.aload_n 0, 1) := by decide +kernel
theorem dX10_deliver_40 : decode cX10_deliver 40 = .ok (.getfield 26, 3) := by decide +kernel
theorem dX10_deliver_43 : decode cX10_deliver 43 = .ok (.getfield 202, 3) := by decide +kernel
theorem dX10_deliver_46 : decode cX10_deliver 46 = .ok (.invokestatic 275, 3) := by decide +kernel
theorem dX10_deliver_49 : decode cX10_deliver 49 = .ok (.ireturn, 1) := by decide +kernel
theorem dX10_within_0 : decode cX10_within 0 = .ok (.iload_n 1, 1) := by decide +kernel
theorem dX10_within_1 : decode cX10_within 1 = .ok (.iload_n 0, 1) := by decide +kernel
theorem dX10_within_2 : decode cX10_within 2 = .ok (.if_icmp .gt 12, 3) := by decide +kernel
theorem dX10_within_5 : decode cX10_within 5 = .ok (.iload_n 0, 1) := by decide +kernel
theorem dX10_within_6 : decode cX10_within 6 = .ok (.iload_n 2, 1) := by decide +kernel
theorem dX10_within_7 : decode cX10_within 7 = .ok (.if_icmp .gt 7, 3) := by decide +kernel
theorem dX10_within_10 : decode cX10_within 10 = .ok (.iconst 1, 1) := by decide +kernel
theorem dX10_within_11 : decode cX10_within 11 = .ok (.goto 4, 3) := by decide +kernel
theorem dX10_within_14 : decode cX10_within 14 = .ok (.iconst 0, 1) := by decide +kernel
theorem dX10_within_15 : decode cX10_within 15 = .ok (.ireturn, 1) := by decide +kernel
theorem dX10_holds_0 : decode cX10_holds 0 = .ok (.iload_n 0, 1) := by decide +kernel
theorem dX10_holds_1 : decode cX10_holds 1 = .ok (.iload_n 1, 1) := by decide +kernel
theorem dX10_holds_2 : decode cX10_holds 2 = .ok (.ishr, 1) := by decide +kernel
theorem dX10_holds_3 : decode cX10_holds 3 = .ok (.iconst 1, 1) := by decide +kernel
theorem dX10_holds_4 : decode cX10_holds 4 = .ok (.iand, 1) := by decide +kernel
theorem dX10_holds_5 : decode cX10_holds 5 = .ok (.iconst 1, 1) := by decide +kernel
theorem dX10_holds_6 : decode cX10_holds 6 = .ok (.if_icmp .ne 7, 3) := by decide +kernel
theorem dX10_holds_9 : decode cX10_holds 9 = .ok (.iconst 1, 1) := by decide +kernel
theorem dX10_holds_10 : decode cX10_holds 10 = .ok (.goto 4, 3) := by decide +kernel
theorem dX10_holds_13 : decode cX10_holds 13 = .ok (.iconst 0, 1) := by decide +kernel
theorem dX10_holds_14 : decode cX10_holds 14 = .ok (.ireturn, 1) := by decide +kernel
theorem dX10_isKind_0 : decode cX10_isKind 0 = .ok (.iload_n 0, 1) := by decide +kernel
theorem dX10_isKind_1 : decode cX10_isKind 1 = .ok (.iconst 0, 1) := by decide +kernel
theorem dX10_isKind_2 : decode cX10_isKind 2 = .ok (.iconst 3, 1) := by decide +kernel
theorem dX10_isKind_3 : decode cX10_isKind 3 = .ok (.invokestatic 143, 3) := by decide +kernel
theorem dX10_isKind_6 : decode cX10_isKind 6 = .ok (.ireturn, 1) := by decide +kernel
theorem dX10_isNotice_0 : decode cX10_isNotice 0 = .ok (.iload_n 0, 1) := by decide +kernel
theorem dX10_isNotice_1 : decode cX10_isNotice 1 = .ok (.iconst 0, 1) := by decide +kernel
theorem dX10_isNotice_2 : decode cX10_isNotice 2 = .ok (.bipush 9, 2) := by decide +kernel
theorem dX10_isNotice_4 : decode cX10_isNotice 4 = .ok (.invokestatic 143, 3) := by decide +kernel
theorem dX10_isNotice_7 : decode cX10_isNotice 7 = .ok (.ifCond .eq 27, 3) := by decide +kernel
theorem dX10_isNotice_10 : decode cX10_isNotice 10 = .ok (.iload_n 1, 1) := by decide +kernel
theorem dX10_isNotice_11 : decode cX10_isNotice 11 = .ok (.iconst 0, 1) := by decide +kernel
theorem dX10_isNotice_12 : decode cX10_isNotice 12 = .ok (.bipush 9, 2) := by decide +kernel
theorem dX10_isNotice_14 : decode cX10_isNotice 14 = .ok (.invokestatic 143, 3) := by decide +kernel
theorem dX10_isNotice_17 : decode cX10_isNotice 17 = .ok (.ifCond .eq 17, 3) := by decide +kernel
theorem dX10_isNotice_20 : decode cX10_isNotice 20 = .ok (.iload_n 2, 1) := by decide +kernel
theorem dX10_isNotice_21 : decode cX10_isNotice 21 = .ok (.iconst 0, 1) := by decide +kernel
theorem dX10_isNotice_22 : decode cX10_isNotice 22 = .ok (.bipush 9, 2) := by decide +kernel
theorem dX10_isNotice_24 : decode cX10_isNotice 24 = .ok (.invokestatic 143, 3) := by decide +kernel
theorem dX10_isNotice_27 : decode cX10_isNotice 27 = .ok (.ifCond .eq 7, 3) := by decide +kernel
theorem dX10_isNotice_30 : decode cX10_isNotice 30 = .ok (.iconst 1, 1) := by decide +kernel
theorem dX10_isNotice_31 : decode cX10_isNotice 31 = .ok (.goto 4, 3) := by decide +kernel
theorem dX10_isNotice_34 : decode cX10_isNotice 34 = .ok (.iconst 0, 1) := by decide +kernel
theorem dX10_isNotice_35 : decode cX10_isNotice 35 = .ok (.ireturn, 1) := by decide +kernel
end
section
theorem dX11_init_0 : decode cX11_init 0 = .ok (.aload_n 0, 1) := by decide +kernel
theorem dX11_init_1 : decode cX11_init 1 = .ok (.invokespecial 1, 3) := by decide +kernel
theorem dX11_init_4 : decode cX11_init 4 = .ok (.aload_n 0, 1) := by decide +kernel
theorem dX11_init_5 : decode cX11_init 5 = .ok (.sipush 256, 3) := by decide +kernel
theorem dX11_init_8 : decode cX11_init 8 = .ok (.newarray .int, 2) := by decide +kernel
theorem dX11_init_10 : decode cX11_init 10 = .ok (.putfield 7, 3) := by decide +kernel
theorem dX11_init_13 : decode cX11_init 13 = .ok (.aload_n 0, 1) := by decide +kernel
theorem dX11_init_14 : decode cX11_init 14 = .ok (.sipush 4096, 3) := by decide +kernel
theorem dX11_init_17 : decode cX11_init 17 = .ok (.newarray .int, 2) := by decide +kernel
theorem dX11_init_19 : decode cX11_init 19 = .ok (.putfield 13, 3) := by decide +kernel
theorem dX11_init_22 : decode cX11_init 22 = .ok (.aload_n 0, 1) := by decide +kernel
theorem dX11_init_23 : decode cX11_init 23 = .ok (.sipush 514, 3) := by decide +kernel
theorem dX11_init_26 : decode cX11_init 26 = .ok (.newarray .int, 2) := by decide +kernel
theorem dX11_init_28 : decode cX11_init 28 = .ok (.putfield 16, 3) := by decide +kernel
theorem dX11_init_31 : decode cX11_init 31 = .ok (.aload_n 0, 1) := by decide +kernel
theorem dX11_init_32 : decode cX11_init 32 = .ok (.iconst 2, 1) := by decide +kernel
theorem dX11_init_33 : decode cX11_init 33 = .ok (.newarray .boolean, 2) := by decide +kernel
theorem dX11_init_35 : decode cX11_init 35 = .ok (.putfield 19, 3) := by decide +kernel
theorem dX11_init_38 : decode cX11_init 38 = .ok (.aload_n 0, 1) := by decide +kernel
theorem dX11_init_39 : decode cX11_init 39 = .ok (.bipush 20, 2) := by decide +kernel
theorem dX11_init_41 : decode cX11_init 41 = .ok (.newarray .int, 2) := by decide +kernel
theorem dX11_init_43 : decode cX11_init 43 = .ok (.putfield 23, 3) := by decide +kernel
theorem dX11_init_46 : decode cX11_init 46 = .ok (.aload_n 0, 1) := by decide +kernel
theorem dX11_init_47 : decode cX11_init 47 = .ok (.bipush 20, 2) := by decide +kernel
theorem dX11_init_49 : decode cX11_init 49 = .ok (.newarray .int, 2) := by decide +kernel
theorem dX11_init_51 : decode cX11_init 51 = .ok (.putfield 26, 3) := by decide +kernel
theorem dX11_init_54 : decode cX11_init 54 = .ok (.aload_n 0, 1) := by decide +kernel
theorem dX11_init_55 : decode cX11_init 55 = .ok (.bipush 14, 2) := by decide +kernel
theorem dX11_init_57 : decode cX11_init 57 = .ok (.newarray .int, 2) := by decide +kernel
theorem dX11_init_59 : decode cX11_init 59 = .ok (.putfield 29, 3) := by decide +kernel
theorem dX11_init_62 : decode cX11_init 62 = .ok (.aload_n 0, 1) := by decide +kernel
theorem dX11_init_63 : decode cX11_init 63 = .ok (.sipush 756, 3) := by decide +kernel
theorem dX11_init_66 : decode cX11_init 66 = .ok (.newarray .int, 2) := by decide +kernel
theorem dX11_init_68 : decode cX11_init 68 = .ok (.putfield 32, 3) := by decide +kernel
theorem dX11_init_71 : decode cX11_init 71 = .ok (.aload_n 0, 1) := by decide +kernel
theorem dX11_init_72 : decode cX11_init 72 = .ok (.sipush 480, 3) := by decide +kernel
theorem dX11_init_75 : decode cX11_init 75 = .ok (.newarray .int, 2) := by decide +kernel
theorem dX11_init_77 : decode cX11_init 77 = .ok (.putfield 35, 3) := by decide +kernel
theorem dX11_init_80 : decode cX11_init 80 = .ok (.aload_n 0, 1) := by decide +kernel
theorem dX11_init_81 : decode cX11_init 81 = .ok (.bipush 6, 2) := by decide +kernel
theorem dX11_init_83 : decode cX11_init 83 = .ok (.newarray .int, 2) := by decide +kernel
theorem dX11_init_85 : decode cX11_init 85 = .ok (.putfield 38, 3) := by decide +kernel
theorem dX11_init_88 : decode cX11_init 88 = .ok (.aload_n 0, 1) := by decide +kernel
theorem dX11_init_89 : decode cX11_init 89 = .ok (.getfield 7, 3) := by decide +kernel
theorem dX11_init_92 : decode cX11_init 92 = .ok (.iconst 0, 1) := by decide +kernel
theorem dX11_init_93 : decode cX11_init 93 = .ok (.iconst 1, 1) := by decide +kernel
theorem dX11_init_94 : decode cX11_init 94 = .ok (.iastore, 1) := by decide +kernel
theorem dX11_init_95 : decode cX11_init 95 = .ok (.aload_n 0, 1) := by decide +kernel
theorem dX11_init_96 : decode cX11_init 96 = .ok (.getfield 7, 3) := by decide +kernel
theorem dX11_init_99 : decode cX11_init 99 = .ok (.iconst 3, 1) := by decide +kernel
theorem dX11_init_100 : decode cX11_init 100 = .ok (.bipush 9, 2) := by decide +kernel
theorem dX11_init_102 : decode cX11_init 102 = .ok (.iastore, 1) := by decide +kernel
theorem dX11_init_103 : decode cX11_init 103 = .ok (.aload_n 0, 1) := by decide +kernel
theorem dX11_init_104 : decode cX11_init 104 = .ok (.getfield 7, 3) := by decide +kernel
theorem dX11_init_107 : decode cX11_init 107 = .ok (.bipush 8, 2) := by decide +kernel
theorem dX11_init_109 : decode cX11_init 109 = .ok (.iconst (-1), 1) := by decide +kernel
theorem dX11_init_110 : decode cX11_init 110 = .ok (.iastore, 1) := by decide +kernel
theorem dX11_init_111 : decode cX11_init 111 = .ok (.return_, 1) := by decide +kernel
theorem dX11_in_0 : decode cX11_in 0 = .ok (.iload_n 0, 1) := by decide +kernel
theorem dX11_in_1 : decode cX11_in 1 = .ok (.iload_n 1, 1) := by decide +kernel
theorem dX11_in_2 : decode cX11_in 2 = .ok (.if_icmp .lt 12, 3) := by decide +kernel
theorem dX11_in_5 : decode cX11_in 5 = .ok (.iload_n 0, 1) := by decide +kernel
theorem dX11_in_6 : decode cX11_in 6 = .ok (.iload_n 2, 1) := by decide +kernel
theorem dX11_in_7 : decode cX11_in 7 = .ok (.if_icmp .gt 7, 3) := by decide +kernel
theorem dX11_in_10 : decode cX11_in 10 = .ok (.iconst 1, 1) := by decide +kernel
theorem dX11_in_11 : decode cX11_in 11 = .ok (.goto 4, 3) := by decide +kernel
theorem dX11_in_14 : decode cX11_in 14 = .ok (.iconst 0, 1) := by decide +kernel
theorem dX11_in_15 : decode cX11_in 15 = .ok (.ireturn, 1) := by decide +kernel
theorem dX11_of_0 : decode cX11_of 0 = .ok (.aload_n 0, 1) := by decide +kernel
theorem dX11_of_1 : decode cX11_of 1 = .ok (.getfield 7, 3) := by decide +kernel
theorem dX11_of_4 : decode cX11_of 4 = .ok (.bipush 16, 2) := by decide +kernel
theorem dX11_of_6 : decode cX11_of 6 = .ok (.bipush 25, 2) := by decide +kernel
theorem dX11_of_8 : decode cX11_of 8 = .ok (.iload_n 1, 1) := by decide +kernel
theorem dX11_of_9 : decode cX11_of 9 = .ok (.imul, 1) := by decide +kernel
theorem dX11_of_10 : decode cX11_of 10 = .ok (.iadd, 1) := by decide +kernel
theorem dX11_of_11 : decode cX11_of 11 = .ok (.iload_n 2, 1) := by decide +kernel
theorem dX11_of_12 : decode cX11_of 12 = .ok (.iadd, 1) := by decide +kernel
theorem dX11_of_13 : decode cX11_of 13 = .ok (.iaload, 1) := by decide +kernel
theorem dX11_of_14 : decode cX11_of 14 = .ok (.ireturn, 1) := by decide +kernel
theorem dX11_sets_0 : decode cX11_sets 0 = .ok (.aload_n 0, 1) := by decide +kernel
theorem dX11_sets_1 : decode cX11_sets 1 = .ok (.getfield 7, 3) := by decide +kernel
theorem dX11_sets_4 : decode cX11_sets 4 = .ok (.bipush 16, 2) := by decide +kernel
theorem dX11_sets_6 : decode cX11_sets 6 = .ok (.bipush 25, 2) := by decide +kernel
theorem dX11_sets_8 : decode cX11_sets 8 = .ok (.iload_n 1, 1) := by decide +kernel
theorem dX11_sets_9 : decode cX11_sets 9 = .ok (.imul, 1) := by decide +kernel
theorem dX11_sets_10 : decode cX11_sets 10 = .ok (.iadd, 1) := by decide +kernel
theorem dX11_sets_11 : decode cX11_sets 11 = .ok (.iload_n 2, 1) := by decide +kernel
theorem dX11_sets_12 : decode cX11_sets 12 = .ok (.iadd, 1) := by decide +kernel
theorem dX11_sets_13 : decode cX11_sets 13 = .ok (.iload_n 3, 1) := by decide +kernel
theorem dX11_sets_14 : decode cX11_sets 14 = .ok (.iastore, 1) := by decide +kernel
theorem dX11_sets_15 : decode cX11_sets 15 = .ok (.return_, 1) := by decide +kernel
theorem dX11_wish_0 : decode cX11_wish 0 = .ok (.aload_n 0, 1) := by decide +kernel
theorem dX11_wish_1 : decode cX11_wish 1 = .ok (.getfield 7, 3) := by decide +kernel
theorem dX11_wish_4 : decode cX11_wish 4 = .ok (.sipush 170, 3) := by decide +kernel
theorem dX11_wish_7 : decode cX11_wish 7 = .ok (.bipush 7, 2) := by decide +kernel
theorem dX11_wish_9 : decode cX11_wish 9 = .ok (.iload_n 1, 1) := by decide +kernel
theorem dX11_wish_10 : decode cX11_wish 10 = .ok (.imul, 1) := by decide +kernel
theorem dX11_wish_11 : decode cX11_wish 11 = .ok (.iadd, 1) := by decide +kernel
theorem dX11_wish_12 : decode cX11_wish 12 = .ok (.iload_n 2, 1) := by decide +kernel
theorem dX11_wish_13 : decode cX11_wish 13 = .ok (.iadd, 1) := by decide +kernel
theorem dX11_wish_14 : decode cX11_wish 14 = .ok (.iaload, 1) := by decide +kernel
theorem dX11_wish_15 : decode cX11_wish 15 = .ok (.ireturn, 1) := by decide +kernel
theorem dX11_isBroker_0 : decode cX11_isBroker 0 = .ok (.iload_n 1, 1) := by decide +kernel
theorem dX11_isBroker_1 : decode cX11_isBroker 1 = .ok (.iconst 0, 1) := by decide +kernel
theorem dX11_isBroker_2 : decode cX11_isBroker 2 = .ok (.aload_n 0, 1) := by decide +kernel
theorem dX11_isBroker_3 : decode cX11_isBroker 3 = .ok (.getfield 7, 3) := by decide +kernel
theorem dX11_isBroker_6 : decode cX11_isBroker 6 = .ok (.iconst 0, 1) := by decide +kernel
theorem dX11_isBroker_7 : decode cX11_isBroker 7 = .ok (.iaload, 1) := by decide +kernel
theorem dX11_isBroker_8 : decode cX11_isBroker 8 = .ok (.iconst 1, 1) := by decide +kernel
theorem dX11_isBroker_9 : decode cX11_isBroker 9 = .ok (.isub, 1) := by decide +kernel
theorem dX11_isBroker_10 : decode cX11_isBroker 10 = .ok (.invokestatic 41, 3) := by decide +kernel
theorem dX11_isBroker_13 : decode cX11_isBroker 13 = .ok (.ireturn, 1) := by decide +kernel
theorem dX11_isClient_0 : decode cX11_isClient 0 = .ok (.iload_n 1, 1) := by decide +kernel
theorem dX11_isClient_1 : decode cX11_isClient 1 = .ok (.iconst 0, 1) := by decide +kernel
theorem dX11_isClient_2 : decode cX11_isClient 2 = .ok (.aload_n 0, 1) := by decide +kernel
theorem dX11_isClient_3 : decode cX11_isClient 3 = .ok (.getfield 7, 3) := by decide +kernel
theorem dX11_isClient_6 : decode cX11_isClient 6 = .ok (.iconst 1, 1) := by decide +kernel
theorem dX11_isClient_7 : decode cX11_isClient 7 = .ok (.iaload, 1) := by decide +kernel
theorem dX11_isClient_8 : decode cX11_isClient 8 = .ok (.iconst 1, 1) := by decide +kernel
theorem dX11_isClient_9 : decode cX11_isClient 9 = .ok (.isub, 1) := by decide +kernel
theorem dX11_isClient_10 : decode cX11_isClient 10 = .ok (.invokestatic 41, 3) := by decide +kernel
theorem dX11_isClient_13 : decode cX11_isClient 13 = .ok (.ireturn, 1) := by decide +kernel
theorem dX11_isWish_0 : decode cX11_isWish 0 = .ok (.iload_n 1, 1) := by decide +kernel
theorem dX11_isWish_1 : decode cX11_isWish 1 = .ok (.iconst 0, 1) := by decide +kernel
theorem dX11_isWish_2 : decode cX11_isWish 2 = .ok (.aload_n 0, 1) := by decide +kernel
theorem dX11_isWish_3 : decode cX11_isWish 3 = .ok (.getfield 7, 3) := by decide +kernel
theorem dX11_isWish_6 : decode cX11_isWish 6 = .ok (.iconst 2, 1) := by decide +kernel
theorem dX11_isWish_7 : decode cX11_isWish 7 = .ok (.iaload, 1) := by decide +kernel
theorem dX11_isWish_8 : decode cX11_isWish 8 = .ok (.iconst 1, 1) := by decide +kernel
theorem dX11_isWish_9 : decode cX11_isWish 9 = .ok (.isub, 1) := by decide +kernel
theorem dX11_isWish_10 : decode cX11_isWish 10 = .ok (.invokestatic 41, 3) := by decide +kernel
theorem dX11_isWish_13 : decode cX11_isWish 13 = .ok (.ireturn, 1) := by decide +kernel
theorem dX11_areNeighbours_0 : decode cX11_areNeighbours 0 = .ok (.aload_n 0, 1) := by decide +kernel
theorem dX11_areNeighbours_1 : decode cX11_areNeighbours 1 = .ok (.iload_n 1, 1) := by decide +kernel
theorem dX11_areNeighbours_2 : decode cX11_areNeighbours 2 = .ok (.invokevirtual 45, 3) := by decide +kernel
theorem dX11_areNeighbours_5 : decode cX11_areNeighbours 5 = .ok (.ifCond .eq 41, 3) := by decide +kernel
theorem dX11_areNeighbours_8 : decode cX11_areNeighbours 8 = .ok (.aload_n 0, 1) := by decide +kernel
theorem dX11_areNeighbours_9 : decode cX11_areNeighbours 9 = .ok (.iload_n 2, 1) := by decide +kernel
theorem dX11_areNeighbours_10 : decode cX11_areNeighbours 10 = .ok (.invokevirtual 45, 3) := by decide +kernel
theorem dX11_areNeighbours_13 : decode cX11_areNeighbours 13 = .ok (.ifCond .eq 33, 3) := by decide +kernel
theorem dX11_areNeighbours_16 : decode cX11_areNeighbours 16 = .ok (.aload_n 0, 1) := by decide +kernel
theorem dX11_areNeighbours_17 : decode cX11_areNeighbours 17 = .ok (.getfield 7, 3) := by decide +kernel
theorem dX11_areNeighbours_20 : decode cX11_areNeighbours 20 = .ok (.bipush 8, 2) := by decide +kernel
theorem dX11_areNeighbours_22 : decode cX11_areNeighbours 22 = .ok (.iload_n 1, 1) := by decide +kernel
theorem dX11_areNeighbours_23 : decode cX11_areNeighbours 23 = .ok (.iadd, 1) := by decide +kernel
theorem dX11_areNeighbours_24 : decode cX11_areNeighbours 24 = .ok (.iaload, 1) := by decide +kernel
theorem dX11_areNeighbours_25 : decode cX11_areNeighbours 25 = .ok (.iload_n 2, 1) := by decide +kernel
theorem dX11_areNeighbours_26 : decode cX11_areNeighbours 26 = .ok (.if_icmp .eq 16, 3) := by decide +kernel
theorem dX11_areNeighbours_29 : decode cX11_areNeighbours 29 = .ok (.aload_n 0, 1) := by decide +kernel
theorem dX11_areNeighbours_30 : decode cX11_areNeighbours 30 = .ok (.getfield 7, 3) := by decide +kernel
theorem dX11_areNeighbours_33 : decode cX11_areNeighbours 33 = .ok (.bipush 8, 2) := by decide +kernel
theorem dX11_areNeighbours_35 : decode cX11_areNeighbours 35 = .ok (.iload_n 2, 1) := by decide +kernel
theorem dX11_areNeighbours_36 : decode cX11_areNeighbours 36 = .ok (.iadd, 1) := by decide +kernel
theorem dX11_areNeighbours_37 : decode cX11_areNeighbours 37 = .ok (.iaload, 1) := by decide +kernel
theorem dX11_areNeighbours_38 : decode cX11_areNeighbours 38 = .ok (.iload_n 1, 1) := by decide +kernel
theorem dX11_areNeighbours_39 : decode cX11_areNeighbours 39 = .ok (.if_icmp .ne 7, 3) := by decide +kernel
theorem dX11_areNeighbours_42 : decode cX11_areNeighbours 42 = .ok (.iconst 1, 1) := by decide +kernel
theorem dX11_areNeighbours_43 : decode cX11_areNeighbours 43 = .ok (.goto 4, 3) := by decide +kernel
theorem dX11_areNeighbours_46 : decode cX11_areNeighbours 46 = .ok (.iconst 0, 1) := by decide +kernel
theorem dX11_areNeighbours_47 : decode cX11_areNeighbours 47 = .ok (.ireturn, 1) := by decide +kernel
theorem dX11_at_0 : decode cX11_at 0 = .ok (.aload_n 0, 1) := by decide +kernel
theorem dX11_at_1 : decode cX11_at 1 = .ok (.getfield 35, 3) := by decide +kernel
theorem dX11_at_4 : decode cX11_at 4 = .ok (.bipush 6, 2) := by decide +kernel
theorem dX11_at_6 : decode cX11_at 6 = .ok (.iload_n 1, 1) := by decide +kernel
theorem dX11_at_7 : decode cX11_at 7 = .ok (.imul, 1) := by decide +kernel
theorem dX11_at_8 : decode cX11_at 8 = .ok (.iload_n 2, 1) := by decide +kernel
theorem dX11_at_9 : decode cX11_at 9 = .ok (.iadd, 1) := by decide +kernel
theorem dX11_at_10 : decode cX11_at 10 = .ok (.iaload, 1) := by decide +kernel
theorem dX11_at_11 : decode cX11_at 11 = .ok (.ireturn, 1) := by decide +kernel
theorem dX11_spread_0 : decode cX11_spread 0 = .ok (.iload_n 1, 1) := by decide +kernel
theorem dX11_spread_1 : decode cX11_spread 1 = .ok (.iload_n 0, 1) := by decide +kernel
theorem dX11_spread_2 : decode cX11_spread 2 = .ok (.if_icmp .ge 7, 3) := by decide +kernel
theorem dX11_spread_5 : decode cX11_spread 5 = .ok (.iconst 0, 1) := by decide +kernel
theorem dX11_spread_6 : decode cX11_spread 6 = .ok (.goto 8, 3) := by decide +kernel
theorem dX11_spread_9 : decode cX11_spread 9 = .ok (.iload_n 1, 1) := by decide +kernel
theorem dX11_spread_10 : decode cX11_spread 10 = .ok (.iload_n 0, 1) := by decide +kernel
theorem dX11_spread_11 : decode cX11_spread 11 = .ok (.isub, 1) := by decide +kernel
theorem dX11_spread_12 : decode cX11_spread 12 = .ok (.iconst 1, 1) := by decide +kernel
theorem dX11_spread_13 : decode cX11_spread 13 = .ok (.iadd, 1) := by decide +kernel
theorem dX11_spread_14 : decode cX11_spread 14 = .ok (.ireturn, 1) := by decide +kernel
theorem dX11_sizeOf_0 : decode cX11_sizeOf 0 = .ok (.aload_n 0, 1) := by decide +kernel
theorem dX11_sizeOf_1 : decode cX11_sizeOf 1 = .ok (.iload_n 1, 1) := by decide +kernel
theorem dX11_sizeOf_2 : decode cX11_sizeOf 2 = .ok (.iconst 0, 1) := by decide +kernel
theorem dX11_sizeOf_3 : decode cX11_sizeOf 3 = .ok (.invokevirtual 49, 3) := by decide +kernel
theorem dX11_sizeOf_6 : decode cX11_sizeOf 6 = .ok (.aload_n 0, 1) := by decide +kernel
theorem dX11_sizeOf_7 : decode cX11_sizeOf 7 = .ok (.iload_n 1, 1) := by decide +kernel
theorem dX11_sizeOf_8 : decode cX11_sizeOf 8 = .ok (.iconst 1, 1) := by decide +kernel
theorem dX11_sizeOf_9 : decode cX11_sizeOf 9 = .ok (.invokevirtual 49, 3) := by decide +kernel
theorem dX11_sizeOf_12 : decode cX11_sizeOf 12 = .ok (.invokestatic 53, 3) := by decide +kernel
theorem dX11_sizeOf_15 : decode cX11_sizeOf 15 = .ok (.aload_n 0, 1) := by decide +kernel
theorem dX11_sizeOf_16 : decode cX11_sizeOf 16 = .ok (.iload_n 1, 1) := by decide +kernel
theorem dX11_sizeOf_17 : decode cX11_sizeOf 17 = .ok (.iconst 2, 1) := by decide +kernel
theorem dX11_sizeOf_18 : decode cX11_sizeOf 18 = .ok (.invokevirtual 49, 3) := by decide +kernel
theorem dX11_sizeOf_21 : decode cX11_sizeOf 21 = .ok (.aload_n 0, 1) := by decide +kernel
theorem dX11_sizeOf_22 : decode cX11_sizeOf 22 = .ok (.iload_n 1, 1) := by decide +kernel
theorem dX11_sizeOf_23 : decode cX11_sizeOf 23 = .ok (.iconst 3, 1) := by decide +kernel
theorem dX11_sizeOf_24 : decode cX11_sizeOf 24 = .ok (.invokevirtual 49, 3) := by decide +kernel
theorem dX11_sizeOf_27 : decode cX11_sizeOf 27 = .ok (.invokestatic 53, 3) := by decide +kernel
theorem dX11_sizeOf_30 : decode cX11_sizeOf 30 = .ok (.imul, 1) := by decide +kernel
theorem dX11_sizeOf_31 : decode cX11_sizeOf 31 = .ok (.aload_n 0, 1) := by decide +kernel
theorem dX11_sizeOf_32 : decode cX11_sizeOf 32 = .ok (.iload_n 1, 1) := by decide +kernel
theorem dX11_sizeOf_33 : decode cX11_sizeOf 33 = .ok (.iconst 4, 1) := by decide +kernel
theorem dX11_sizeOf_34 : decode cX11_sizeOf 34 = .ok (.invokevirtual 49, 3) := by decide +kernel
theorem dX11_sizeOf_37 : decode cX11_sizeOf 37 = .ok (.aload_n 0, 1) := by decide +kernel
theorem dX11_sizeOf_38 : decode cX11_sizeOf 38 = .ok (.iload_n 1, 1) := by decide +kernel
theorem dX11_sizeOf_39 : decode cX11_sizeOf 39 = .ok (.iconst 5, 1) := by decide +kernel
theorem dX11_sizeOf_40 : decode cX11_sizeOf 40 = .ok (.invokevirtual 49, 3) := by decide +kernel
theorem dX11_sizeOf_43 : decode cX11_sizeOf 43 = .ok (.invokestatic 53, 3) := by decide +kernel
theorem dX11_sizeOf_46 : decode cX11_sizeOf 46 = .ok (.imul, 1) := by decide +kernel
theorem dX11_sizeOf_47 : decode cX11_sizeOf 47 = .ok (.ireturn, 1) := by decide +kernel
theorem dX11_covers_0 : decode cX11_covers 0 = .ok (.iconst 1, 1) := by decide +kernel
theorem dX11_covers_1 : decode cX11_covers 1 = .ok (.istore_n 3, 1) := by decide +kernel
theorem dX11_covers_2 : decode cX11_covers 2 = .ok (.iconst 0, 1) := by decide +kernel
theorem dX11_covers_3 : decode cX11_covers 3 = .ok (.istore 4, 2) := by decide +kernel
theorem dX11_covers_5 : decode cX11_covers 5 = .ok (.iload 4, 2) := by decide +kernel
theorem dX11_covers_7 : decode cX11_covers 7 = .ok (.bipush 6, 2) := by decide +kernel
theorem dX11_covers_9 : decode cX11_covers 9 = .ok (.if_icmp .ge 57, 3) := by decide +kernel
theorem dX11_covers_12 : decode cX11_covers 12 = .ok (.iload_n 3, 1) := by decide +kernel
theorem dX11_covers_13 : decode cX11_covers 13 = .ok (.ifCond .eq 45, 3) := by decide +kernel
theorem dX11_covers_16 : decode cX11_covers 16 = .ok (.aload_n 0, 1) := by decide +kernel
theorem dX11_covers_17 : decode cX11_covers 17 = .ok (.iload_n 1, 1) := by decide +kernel
theorem dX11_covers_18 : decode cX11_covers 18 = .ok (.iload 4, 2) := by decide +kernel
theorem dX11_covers_20 : decode cX11_covers 20 = .ok (.invokevirtual 49, 3) := by decide +kernel
theorem dX11_covers_23 : decode cX11_covers 23 = .ok (.aload_n 0, 1) := by decide +kernel
theorem dX11_covers_24 : decode cX11_covers 24 = .ok (.iload_n 2, 1) := by decide +kernel
theorem dX11_covers_25 : decode cX11_covers 25 = .ok (.iload 4, 2) := by decide +kernel
theorem dX11_covers_27 : decode cX11_covers 27 = .ok (.invokevirtual 49, 3) := by decide +kernel
theorem dX11_covers_30 : decode cX11_covers 30 = .ok (.if_icmp .gt 28, 3) := by decide +kernel
theorem dX11_covers_33 : decode cX11_covers 33 = .ok (.aload_n 0, 1) := by decide +kernel
theorem dX11_covers_34 : decode cX11_covers 34 = .ok (.iload_n 1, 1) := by decide +kernel
theorem dX11_covers_35 : decode cX11_covers 35 = .ok (.iload 4, 2) := by decide +kernel
theorem dX11_covers_37 : decode cX11_covers 37 = .ok (.iconst 1, 1) := by decide +kernel
theorem dX11_covers_38 : decode cX11_covers 38 = .ok (.iadd, 1) := by decide +kernel
theorem dX11_covers_39 : decode cX11_covers 39 = .ok (.invokevirtual 49, 3) := by decide +kernel
theorem dX11_covers_42 : decode cX11_covers 42 = .ok (.aload_n 0, 1) := by decide +kernel
theorem dX11_covers_43 : decode cX11_covers 43 = .ok (.iload_n 2, 1) := by decide +kernel
theorem dX11_covers_44 : decode cX11_covers 44 = .ok (.iload 4, 2) := by decide +kernel
theorem dX11_covers_46 : decode cX11_covers 46 = .ok (.iconst 1, 1) := by decide +kernel
theorem dX11_covers_47 : decode cX11_covers 47 = .ok (.iadd, 1) := by decide +kernel
theorem dX11_covers_48 : decode cX11_covers 48 = .ok (.invokevirtual 49, 3) := by decide +kernel
theorem dX11_covers_51 : decode cX11_covers 51 = .ok (.if_icmp .lt 7, 3) := by decide +kernel
theorem dX11_covers_54 : decode cX11_covers 54 = .ok (.iconst 1, 1) := by decide +kernel
theorem dX11_covers_55 : decode cX11_covers 55 = .ok (.goto 4, 3) := by decide +kernel
theorem dX11_covers_58 : decode cX11_covers 58 = .ok (.iconst 0, 1) := by decide +kernel
theorem dX11_covers_59 : decode cX11_covers 59 = .ok (.istore_n 3, 1) := by decide +kernel
theorem dX11_covers_60 : decode cX11_covers 60 = .ok (.iinc 4 2, 3) := by decide +kernel
theorem dX11_covers_63 : decode cX11_covers 63 = .ok (.goto (-58), 3) := by decide +kernel
theorem dX11_covers_66 : decode cX11_covers 66 = .ok (.iload_n 3, 1) := by decide +kernel
theorem dX11_covers_67 : decode cX11_covers 67 = .ok (.ireturn, 1) := by decide +kernel
theorem dX11_shared_0 : decode cX11_shared 0 = .ok (.iconst 1, 1) := by decide +kernel
theorem dX11_shared_1 : decode cX11_shared 1 = .ok (.istore_n 3, 1) := by decide +kernel
theorem dX11_shared_2 : decode cX11_shared 2 = .ok (.iconst 0, 1) := by decide +kernel
theorem dX11_shared_3 : decode cX11_shared 3 = .ok (.istore 4, 2) := by decide +kernel
theorem dX11_shared_5 : decode cX11_shared 5 = .ok (.iload 4, 2) := by decide +kernel
theorem dX11_shared_7 : decode cX11_shared 7 = .ok (.bipush 6, 2) := by decide +kernel
theorem dX11_shared_9 : decode cX11_shared 9 = .ok (.if_icmp .ge 99, 3) := by decide +kernel
theorem dX11_shared_12 : decode cX11_shared 12 = .ok (.aload_n 0, 1) := by decide +kernel
theorem dX11_shared_13 : decode cX11_shared 13 = .ok (.iload_n 1, 1) := by decide +kernel
theorem dX11_shared_14 : decode cX11_shared 14 = .ok (.iload 4, 2) := by decide +kernel
theorem dX11_shared_16 : decode cX11_shared 16 = .ok (.invokevirtual 49, 3) := by decide +kernel
theorem dX11_shared_19 : decode cX11_shared 19 = .ok (.aload_n 0, 1) := by decide +kernel
theorem dX11_shared_20 : decode cX11_shared 20 = .ok (.iload_n 2, 1) := by decide +kernel
theorem dX11_shared_21 : decode cX11_shared 21 = .ok (.iload 4, 2) := by decide +kernel
theorem dX11_shared_23 : decode cX11_shared 23 = .ok (.invokevirtual 49, 3) := by decide +kernel
theorem dX11_shared_26 : decode cX11_shared 26 = .ok (.if_icmp .le 13, 3) := by decide +kernel
theorem dX11_shared_29 : decode cX11_shared 29 = .ok (.aload_n 0, 1) := by decide +kernel
theorem dX11_shared_30 : decode cX11_shared 30 = .ok (.iload_n 1, 1) := by decide +kernel
theorem dX11_shared_31 : decode cX11_shared 31 = .ok (.iload 4, 2) := by decide +kernel
theorem dX11_shared_33 : decode cX11_shared 33 = .ok (.invokevirtual 49, 3) := by decide +kernel
theorem dX11_shared_36 : decode cX11_shared 36 = .ok (.goto 10, 3) := by decide +kernel
theorem dX11_shared_39 : decode cX11_shared 39 = .ok (.aload_n 0, 1) := by decide +kernel
theorem dX11_shared_40 : decode cX11_shared 40 = .ok (.iload_n 2, 1) := by decide +kernel
theorem dX11_shared_41 : decode cX11_shared 41 = .ok (.iload 4, 2) := by decide +kernel
theorem dX11_shared_43 : decode cX11_shared 43 = .ok (.invokevirtual 49, 3) := by decide +kernel
theorem dX11_shared_46 : decode cX11_shared 46 = .ok (.istore 5, 2) := by decide +kernel
theorem dX11_shared_48 : decode cX11_shared 48 = .ok (.aload_n 0, 1) := by decide +kernel
theorem dX11_shared_49 : decode cX11_shared 49 = .ok (.iload_n 1, 1) := by decide +kernel
theorem dX11_shared_50 : decode cX11_shared 50 = .ok (.iload 4, 2) := by decide +kernel
theorem dX11_shared_52 : decode cX11_shared 52 = .ok (.iconst 1, 1) := by decide +kernel
theorem dX11_shared_53 : decode cX11_shared 53 = .ok (.iadd, 1) := by decide +kernel
theorem dX11_shared_54 : decode cX11_shared 54 = .ok (.invokevirtual 49, 3) := by decide +kernel
theorem dX11_shared_57 : decode cX11_shared 57 = .ok (.aload_n 0, 1) := by decide +kernel
theorem dX11_shared_58 : decode cX11_shared 58 = .ok (.iload_n 2, 1) := by decide +kernel
theorem dX11_shared_59 : decode cX11_shared 59 = .ok (.iload 4, 2) := by decide +kernel
theorem dX11_shared_61 : decode cX11_shared 61 = .ok (.iconst 1, 1) := by decide +kernel
theorem dX11_shared_62 : decode cX11_shared 62 = .ok (.iadd, 1) := by decide +kernel
theorem dX11_shared_63 : decode cX11_shared 63 = .ok (.invokevirtual 49, 3) := by decide +kernel
theorem dX11_shared_66 : decode cX11_shared 66 = .ok (.if_icmp .ge 15, 3) := by decide +kernel
theorem dX11_shared_69 : decode cX11_shared 69 = .ok (.aload_n 0, 1) := by decide +kernel
theorem dX11_shared_70 : decode cX11_shared 70 = .ok (.iload_n 1, 1) := by decide +kernel
theorem dX11_shared_71 : decode cX11_shared 71 = .ok (.iload 4, 2) := by decide +kernel
theorem dX11_shared_73 : decode cX11_shared 73 = .ok (.iconst 1, 1) := by decide +kernel
theorem dX11_shared_74 : decode cX11_shared 74 = .ok (.iadd, 1) := by decide +kernel
theorem dX11_shared_75 : decode cX11_shared 75 = .ok (.invokevirtual 49, 3) := by decide +kernel
theorem dX11_shared_78 : decode cX11_shared 78 = .ok (.goto 12, 3) := by decide +kernel
theorem dX11_shared_81 : decode cX11_shared 81 = .ok (.aload_n 0, 1) := by decide +kernel
theorem dX11_shared_82 : decode cX11_shared 82 = .ok (.iload_n 2, 1) := by decide +kernel
theorem dX11_shared_83 : decode cX11_shared 83 = .ok (.iload 4, 2) := by decide +kernel
theorem dX11_shared_85 : decode cX11_shared 85 = .ok (.iconst 1, 1) := by decide +kernel
theorem dX11_shared_86 : decode cX11_shared 86 = .ok (.iadd, 1) := by decide +kernel
theorem dX11_shared_87 : decode cX11_shared 87 = .ok (.invokevirtual 49, 3) := by decide +kernel
theorem dX11_shared_90 : decode cX11_shared 90 = .ok (.istore 6, 2) := by decide +kernel
theorem dX11_shared_92 : decode cX11_shared 92 = .ok (.iload_n 3, 1) := by decide +kernel
theorem dX11_shared_93 : decode cX11_shared 93 = .ok (.iload 5, 2) := by decide +kernel
theorem dX11_shared_95 : decode cX11_shared 95 = .ok (.iload 6, 2) := by decide +kernel
theorem dX11_shared_97 : decode cX11_shared 97 = .ok (.invokestatic 53, 3) := by decide +kernel
theorem dX11_shared_100 : decode cX11_shared 100 = .ok (.imul, 1) := by decide +kernel
theorem dX11_shared_101 : decode cX11_shared 101 = .ok (.istore_n 3, 1) := by decide +kernel
theorem dX11_shared_102 : decode cX11_shared 102 = .ok (.iinc 4 2, 3) := by decide +kernel
theorem dX11_shared_105 : decode cX11_shared 105 = .ok (.goto (-100), 3) := by decide +kernel
theorem dX11_shared_108 : decode cX11_shared 108 = .ok (.iload_n 3, 1) := by decide +kernel
theorem dX11_shared_109 : decode cX11_shared 109 = .ok (.ireturn, 1) := by decide +kernel
theorem dX11_order_0 : decode cX11_order 0 = .ok (.iconst 0, 1) := by decide +kernel
theorem dX11_order_1 : decode cX11_order 1 = .ok (.istore_n 3, 1) := by decide +kernel
theorem dX11_order_2 : decode cX11_order 2 = .ok (.iconst 5, 1) := by decide +kernel
theorem dX11_order_3 : decode cX11_order 3 = .ok (.istore 4, 2) := by decide +kernel
theorem dX11_order_5 : decode cX11_order 5 = .ok (.iload 4, 2) := by decide +kernel
theorem dX11_order_7 : decode cX11_order 7 = .ok (.ifCond .lt 46, 3) := by decide +kernel
theorem dX11_order_10 : decode cX11_order 10 = .ok (.aload_n 0, 1) := by decide +kernel
theorem dX11_order_11 : decode cX11_order 11 = .ok (.iload_n 1, 1) := by decide +kernel
theorem dX11_order_12 : decode cX11_order 12 = .ok (.iload 4, 2) := by decide +kernel
theorem dX11_order_14 : decode cX11_order 14 = .ok (.invokevirtual 49, 3) := by decide +kernel
theorem dX11_order_17 : decode cX11_order 17 = .ok (.aload_n 0, 1) := by decide +kernel
theorem dX11_order_18 : decode cX11_order 18 = .ok (.iload_n 2, 1) := by decide +kernel
theorem dX11_order_19 : decode cX11_order 19 = .ok (.iload 4, 2) := by decide +kernel
theorem dX11_order_21 : decode cX11_order 21 = .ok (.invokevirtual 49, 3) := by decide +kernel
theorem dX11_order_24 : decode cX11_order 24 = .ok (.if_icmp .eq 21, 3) := by decide +kernel
theorem dX11_order_27 : decode cX11_order 27 = .ok (.aload_n 0, 1) := by decide +kernel
theorem dX11_order_28 : decode cX11_order 28 = .ok (.iload_n 1, 1) := by decide +kernel
theorem dX11_order_29 : decode cX11_order 29 = .ok (.iload 4, 2) := by decide +kernel
theorem dX11_order_31 : decode cX11_order 31 = .ok (.invokevirtual 49, 3) := by decide +kernel
theorem dX11_order_34 : decode cX11_order 34 = .ok (.aload_n 0, 1) := by decide +kernel
theorem dX11_order_35 : decode cX11_order 35 = .ok (.iload_n 2, 1) := by decide +kernel
theorem dX11_order_36 : decode cX11_order 36 = .ok (.iload 4, 2) := by decide +kernel
theorem dX11_order_38 : decode cX11_order 38 = .ok (.invokevirtual 49, 3) := by decide +kernel
theorem dX11_order_41 : decode cX11_order 41 = .ok (.isub, 1) := by decide +kernel
theorem dX11_order_42 : decode cX11_order 42 = .ok (.goto 4, 3) := by decide +kernel
theorem dX11_order_45 : decode cX11_order 45 = .ok (.iload_n 3, 1) := by decide +kernel
theorem dX11_order_46 : decode cX11_order 46 = .ok (.istore_n 3, 1) := by decide +kernel
theorem dX11_order_47 : decode cX11_order 47 = .ok (.iinc 4 (-1), 3) := by decide +kernel
theorem dX11_order_50 : decode cX11_order 50 = .ok (.goto (-45), 3) := by decide +kernel
theorem dX11_order_53 : decode cX11_order 53 = .ok (.iload_n 3, 1) := by decide +kernel
theorem dX11_order_54 : decode cX11_order 54 = .ok (.ireturn, 1) := by decide +kernel
theorem dX11_copies_0 : decode cX11_copies 0 = .ok (.iconst 0, 1) := by decide +kernel
theorem dX11_copies_1 : decode cX11_copies 1 = .ok (.istore_n 3, 1) := by decide +kernel
theorem dX11_copies_2 : decode cX11_copies 2 = .ok (.iload_n 3, 1) := by decide +kernel
theorem dX11_copies_3 : decode cX11_copies 3 = .ok (.bipush 6, 2) := by decide +kernel
theorem dX11_copies_5 : decode cX11_copies 5 = .ok (.if_icmp .ge 31, 3) := by decide +kernel
theorem dX11_copies_8 : decode cX11_copies 8 = .ok (.aload_n 0, 1) := by decide +kernel
theorem dX11_copies_9 : decode cX11_copies 9 = .ok (.getfield 35, 3) := by decide +kernel
theorem dX11_copies_12 : decode cX11_copies 12 = .ok (.bipush 6, 2) := by decide +kernel
theorem dX11_copies_14 : decode cX11_copies 14 = .ok (.iload_n 1, 1) := by decide +kernel
theorem dX11_copies_15 : decode cX11_copies 15 = .ok (.imul, 1) := by decide +kernel
theorem dX11_copies_16 : decode cX11_copies 16 = .ok (.iload_n 3, 1) := by decide +kernel
theorem dX11_copies_17 : decode cX11_copies 17 = .ok (.iadd, 1) := by decide +kernel
theorem dX11_copies_18 : decode cX11_copies 18 = .ok (.aload_n 0, 1) := by decide +kernel
theorem dX11_copies_19 : decode cX11_copies 19 = .ok (.getfield 35, 3) := by decide +kernel
theorem dX11_copies_22 : decode cX11_copies 22 = .ok (.bipush 6, 2) := by decide +kernel
theorem dX11_copies_24 : decode cX11_copies 24 = .ok (.iload_n 2, 1) := by decide +kernel
theorem dX11_copies_25 : decode cX11_copies 25 = .ok (.imul, 1) := by decide +kernel
theorem dX11_copies_26 : decode cX11_copies 26 = .ok (.iload_n 3, 1) := by decide +kernel
theorem dX11_copies_27 : decode cX11_copies 27 = .ok (.iadd, 1) := by decide +kernel
theorem dX11_copies_28 : decode cX11_copies 28 = .ok (.iaload, 1) := by decide +kernel
theorem dX11_copies_29 : decode cX11_copies 29 = .ok (.iastore, 1) := by decide +kernel
theorem dX11_copies_30 : decode cX11_copies 30 = .ok (.iinc 3 1, 3) := by decide +kernel
theorem dX11_copies_33 : decode cX11_copies 33 = .ok (.goto (-31), 3) := by decide +kernel
theorem dX11_copies_36 : decode cX11_copies 36 = .ok (.return_, 1) := by decide +kernel
theorem dX11_settles_0 : decode cX11_settles 0 = .ok (.aload_n 0, 1) := by decide +kernel
theorem dX11_settles_1 : decode cX11_settles 1 = .ok (.getfield 56, 3) := by decide +kernel
theorem dX11_settles_4 : decode cX11_settles 4 = .ok (.iconst 1, 1) := by decide +kernel
theorem dX11_settles_5 : decode cX11_settles 5 = .ok (.isub, 1) := by decide +kernel
theorem dX11_settles_6 : decode cX11_settles 6 = .ok (.istore_n 1, 1) := by decide +kernel
theorem dX11_settles_7 : decode cX11_settles 7 = .ok (.iload_n 1, 1) := by decide +kernel
theorem dX11_settles_8 : decode cX11_settles 8 = .ok (.ifCond .le 75, 3) := by decide +kernel
theorem dX11_settles_11 : decode cX11_settles 11 = .ok (.aload_n 0, 1) := by decide +kernel
theorem dX11_settles_12 : decode cX11_settles 12 = .ok (.iload_n 1, 1) := by decide +kernel
theorem dX11_settles_13 : decode cX11_settles 13 = .ok (.iconst 1, 1) := by decide +kernel
theorem dX11_settles_14 : decode cX11_settles 14 = .ok (.isub, 1) := by decide +kernel
theorem dX11_settles_15 : decode cX11_settles 15 = .ok (.iload_n 1, 1) := by decide +kernel
theorem dX11_settles_16 : decode cX11_settles 16 = .ok (.invokevirtual 60, 3) := by decide +kernel
theorem dX11_settles_19 : decode cX11_settles 19 = .ok (.ifCond .le 64, 3) := by decide +kernel
theorem dX11_settles_22 : decode cX11_settles 22 = .ok (.iconst 0, 1) := by decide +kernel
theorem dX11_settles_23 : decode cX11_settles 23 = .ok (.istore_n 2, 1) := by decide +kernel
theorem dX11_settles_24 : decode cX11_settles 24 = .ok (.iload_n 2, 1) := by decide +kernel
theorem dX11_settles_25 : decode cX11_settles 25 = .ok (.bipush 6, 2) := by decide +kernel
theorem dX11_settles_27 : decode cX11_settles 27 = .ok (.if_icmp .ge 50, 3) := by decide +kernel
theorem dX11_settles_30 : decode cX11_settles 30 = .ok (.aload_n 0, 1) := by decide +kernel
theorem dX11_settles_31 : decode cX11_settles 31 = .ok (.iload_n 1, 1) := by decide +kernel
theorem dX11_settles_32 : decode cX11_settles 32 = .ok (.iload_n 2, 1) := by decide +kernel
theorem dX11_settles_33 : decode cX11_settles 33 = .ok (.invokevirtual 49, 3) := by decide +kernel
theorem dX11_settles_36 : decode cX11_settles 36 = .ok (.istore_n 3, 1) := by decide +kernel
theorem dX11_settles_37 : decode cX11_settles 37 = .ok (.aload_n 0, 1) := by decide +kernel
theorem dX11_settles_38 : decode cX11_settles 38 = .ok (.getfield 35, 3) := by decide +kernel
theorem dX11_settles_41 : decode cX11_settles 41 = .ok (.bipush 6, 2) := by decide +kernel
theorem dX11_settles_43 : decode cX11_settles 43 = .ok (.iload_n 1, 1) := by decide +kernel
theorem dX11_settles_44 : decode cX11_settles 44 = .ok (.imul, 1) := by decide +kernel
theorem dX11_settles_45 : decode cX11_settles 45 = .ok (.iload_n 2, 1) := by decide +kernel
theorem dX11_settles_46 : decode cX11_settles 46 = .ok (.iadd, 1) := by decide +kernel
theorem dX11_settles_47 : decode cX11_settles 47 = .ok (.aload_n 0, 1) := by decide +kernel
theorem dX11_settles_48 : decode cX11_settles 48 = .ok (.iload_n 1, 1) := by decide +kernel
theorem dX11_settles_49 : decode cX11_settles 49 = .ok (.iconst 1, 1) := by decide +kernel
theorem dX11_settles_50 : decode cX11_settles 50 = .ok (.isub, 1) := by decide +kernel
theorem dX11_settles_51 : decode cX11_settles 51 = .ok (.iload_n 2, 1) := by decide +kernel
theorem dX11_settles_52 : decode cX11_settles 52 = .ok (.invokevirtual 49, 3) := by decide +kernel
theorem dX11_settles_55 : decode cX11_settles 55 = .ok (.iastore, 1) := by decide +kernel
theorem dX11_settles_56 : decode cX11_settles 56 = .ok (.aload_n 0, 1) := by decide +kernel
theorem dX11_settles_57 : decode cX11_settles 57 = .ok (.getfield 35, 3) := by decide +kernel
theorem dX11_settles_60 : decode cX11_settles 60 = .ok (.bipush 6, 2) := by decide +kernel
theorem dX11_settles_62 : decode cX11_settles 62 = .ok (.iload_n 1, 1) := by decide +kernel
theorem dX11_settles_63 : decode cX11_settles 63 = .ok (.imul, 1) := by decide +kernel
theorem dX11_settles_64 : decode cX11_settles 64 = .ok (.bipush 6, 2) := by decide +kernel
theorem dX11_settles_66 : decode cX11_settles 66 = .ok (.isub, 1) := by decide +kernel
theorem dX11_settles_67 : decode cX11_settles 67 = .ok (.iload_n 2, 1) := by decide +kernel
theorem dX11_settles_68 : decode cX11_settles 68 = .ok (.iadd, 1) := by decide +kernel
theorem dX11_settles_69 : decode cX11_settles 69 = .ok (.iload_n 3, 1) := by decide +kernel
theorem dX11_settles_70 : decode cX11_settles 70 = .ok (.iastore, 1) := by decide +kernel
theorem dX11_settles_71 : decode cX11_settles 71 = .ok (.iinc 2 1, 3) := by decide +kernel
theorem dX11_settles_74 : decode cX11_settles 74 = .ok (.goto (-50), 3) := by decide +kernel
theorem dX11_settles_77 : decode cX11_settles 77 = .ok (.iinc 1 (-1), 3) := by decide +kernel
theorem dX11_settles_80 : decode cX11_settles 80 = .ok (.goto (-73), 3) := by decide +kernel
theorem dX11_settles_83 : decode cX11_settles 83 = .ok (.return_, 1) := by decide +kernel
theorem dX11_comes_0 : decode cX11_comes 0 = .ok (.aload_n 0, 1) := by decide +kernel
theorem dX11_comes_1 : decode cX11_comes 1 = .ok (.getfield 56, 3) := by decide +kernel
theorem dX11_comes_4 : decode cX11_comes 4 = .ok (.istore_n 1, 1) := by decide +kernel
theorem dX11_comes_5 : decode cX11_comes 5 = .ok (.iconst 1, 1) := by decide +kernel
theorem dX11_comes_6 : decode cX11_comes 6 = .ok (.istore_n 2, 1) := by decide +kernel
theorem dX11_comes_7 : decode cX11_comes 7 = .ok (.iconst 0, 1) := by decide +kernel
theorem dX11_comes_8 : decode cX11_comes 8 = .ok (.istore_n 3, 1) := by decide +kernel
theorem dX11_comes_9 : decode cX11_comes 9 = .ok (.iload_n 3, 1) := by decide +kernel
theorem dX11_comes_10 : decode cX11_comes 10 = .ok (.iload_n 1, 1) := by decide +kernel
theorem dX11_comes_11 : decode cX11_comes 11 = .ok (.if_icmp .ge 28, 3) := by decide +kernel
theorem dX11_comes_14 : decode cX11_comes 14 = .ok (.iload_n 2, 1) := by decide +kernel
theorem dX11_comes_15 : decode cX11_comes 15 = .ok (.ifCond .eq 16, 3) := by decide +kernel
theorem dX11_comes_18 : decode cX11_comes 18 = .ok (.aload_n 0, 1) := by decide +kernel
theorem dX11_comes_19 : decode cX11_comes 19 = .ok (.iload_n 3, 1) := by decide +kernel
theorem dX11_comes_20 : decode cX11_comes 20 = .ok (.iload_n 1, 1) := by decide +kernel
theorem dX11_comes_21 : decode cX11_comes 21 = .ok (.invokevirtual 67, 3) := by decide +kernel
theorem dX11_comes_24 : decode cX11_comes 24 = .ok (.ifCond .ne 7, 3) := by decide +kernel
theorem dX11_comes_27 : decode cX11_comes 27 = .ok (.iconst 1, 1) := by decide +kernel
theorem dX11_comes_28 : decode cX11_comes 28 = .ok (.goto 4, 3) := by decide +kernel
theorem dX11_comes_31 : decode cX11_comes 31 = .ok (.iconst 0, 1) := by decide +kernel
theorem dX11_comes_32 : decode cX11_comes 32 = .ok (.istore_n 2, 1) := by decide +kernel
theorem dX11_comes_33 : decode cX11_comes 33 = .ok (.iinc 3 1, 3) := by decide +kernel
theorem dX11_comes_36 : decode cX11_comes 36 = .ok (.goto (-27), 3) := by decide +kernel
theorem dX11_comes_39 : decode cX11_comes 39 = .ok (.iload_n 2, 1) := by decide +kernel
theorem dX11_comes_40 : decode cX11_comes 40 = .ok (.ifCond .ne 4, 3) := by decide +kernel
theorem dX11_comes_43 : decode cX11_comes 43 = .ok (.return_, 1) := by decide +kernel
theorem dX11_comes_44 : decode cX11_comes 44 = .ok (.iconst 0, 1) := by decide +kernel
theorem dX11_comes_45 : decode cX11_comes 45 = .ok (.istore_n 3, 1) := by decide +kernel
theorem dX11_comes_46 : decode cX11_comes 46 = .ok (.iconst 0, 1) := by decide +kernel
theorem dX11_comes_47 : decode cX11_comes 47 = .ok (.istore 4, 2) := by decide +kernel
theorem dX11_comes_49 : decode cX11_comes 49 = .ok (.iload 4, 2) := by decide +kernel
theorem dX11_comes_51 : decode cX11_comes 51 = .ok (.iload_n 1, 1) := by decide +kernel
theorem dX11_comes_52 : decode cX11_comes 52 = .ok (.if_icmp .ge 29, 3) := by decide +kernel
theorem dX11_comes_55 : decode cX11_comes 55 = .ok (.aload_n 0, 1) := by decide +kernel
theorem dX11_comes_56 : decode cX11_comes 56 = .ok (.iload_n 1, 1) := by decide +kernel
theorem dX11_comes_57 : decode cX11_comes 57 = .ok (.iload 4, 2) := by decide +kernel
theorem dX11_comes_59 : decode cX11_comes 59 = .ok (.invokevirtual 67, 3) := by decide +kernel
theorem dX11_comes_62 : decode cX11_comes 62 = .ok (.ifCond .ne 13, 3) := by decide +kernel
theorem dX11_comes_65 : decode cX11_comes 65 = .ok (.aload_n 0, 1) := by decide +kernel
theorem dX11_comes_66 : decode cX11_comes 66 = .ok (.iload_n 3, 1) := by decide +kernel
theorem dX11_comes_67 : decode cX11_comes 67 = .ok (.iload 4, 2) := by decide +kernel
theorem dX11_comes_69 : decode cX11_comes 69 = .ok (.invokevirtual 63, 3) := by decide +kernel
theorem dX11_comes_72 : decode cX11_comes 72 = .ok (.iinc 3 1, 3) := by decide +kernel
theorem dX11_comes_75 : decode cX11_comes 75 = .ok (.iinc 4 1, 3) := by decide +kernel
theorem dX11_comes_78 : decode cX11_comes 78 = .ok (.goto (-29), 3) := by decide +kernel
theorem dX11_comes_81 : decode cX11_comes 81 = .ok (.aload_n 0, 1) := by decide +kernel
theorem dX11_comes_82 : decode cX11_comes 82 = .ok (.iload_n 3, 1) := by decide +kernel
theorem dX11_comes_83 : decode cX11_comes 83 = .ok (.iload_n 1, 1) := by decide +kernel
theorem dX11_comes_84 : decode cX11_comes 84 = .ok (.invokevirtual 63, 3) := by decide +kernel
theorem dX11_comes_87 : decode cX11_comes 87 = .ok (.aload_n 0, 1) := by decide +kernel
theorem dX11_comes_88 : decode cX11_comes 88 = .ok (.iload_n 3, 1) := by decide +kernel
theorem dX11_comes_89 : decode cX11_comes 89 = .ok (.iconst 1, 1) := by decide +kernel
theorem dX11_comes_90 : decode cX11_comes 90 = .ok (.iadd, 1) := by decide +kernel
theorem dX11_comes_91 : decode cX11_comes 91 = .ok (.putfield 56, 3) := by decide +kernel
theorem dX11_comes_94 : decode cX11_comes 94 = .ok (.aload_n 0, 1) := by decide +kernel
theorem dX11_comes_95 : decode cX11_comes 95 = .ok (.invokevirtual 71, 3) := by decide +kernel
theorem dX11_comes_98 : decode cX11_comes 98 = .ok (.return_, 1) := by decide +kernel
theorem dX11_wasteOf_0 : decode cX11_wasteOf 0 = .ok (.iconst 1, 1) := by decide +kernel
theorem dX11_wasteOf_1 : decode cX11_wasteOf 1 = .ok (.istore_n 3, 1) := by decide +kernel
theorem dX11_wasteOf_2 : decode cX11_wasteOf 2 = .ok (.iconst 0, 1) := by decide +kernel
theorem dX11_wasteOf_3 : decode cX11_wasteOf 3 = .ok (.istore 4, 2) := by decide +kernel
theorem dX11_wasteOf_5 : decode cX11_wasteOf 5 = .ok (.iload 4, 2) := by decide +kernel
theorem dX11_wasteOf_7 : decode cX11_wasteOf 7 = .ok (.bipush 6, 2) := by decide +kernel
theorem dX11_wasteOf_9 : decode cX11_wasteOf 9 = .ok (.if_icmp .ge 119, 3) := by decide +kernel
theorem dX11_wasteOf_12 : decode cX11_wasteOf 12 = .ok (.aload_n 0, 1) := by decide +kernel
theorem dX11_wasteOf_13 : decode cX11_wasteOf 13 = .ok (.iload_n 1, 1) := by decide +kernel
theorem dX11_wasteOf_14 : decode cX11_wasteOf 14 = .ok (.iload 4, 2) := by decide +kernel
theorem dX11_wasteOf_16 : decode cX11_wasteOf 16 = .ok (.invokevirtual 49, 3) := by decide +kernel
theorem dX11_wasteOf_19 : decode cX11_wasteOf 19 = .ok (.aload_n 0, 1) := by decide +kernel
theorem dX11_wasteOf_20 : decode cX11_wasteOf 20 = .ok (.iload_n 2, 1) := by decide +kernel
theorem dX11_wasteOf_21 : decode cX11_wasteOf 21 = .ok (.iload 4, 2) := by decide +kernel
theorem dX11_wasteOf_23 : decode cX11_wasteOf 23 = .ok (.invokevirtual 49, 3) := by decide +kernel
theorem dX11_wasteOf_26 : decode cX11_wasteOf 26 = .ok (.if_icmp .ge 13, 3) := by decide +kernel
theorem dX11_wasteOf_29 : decode cX11_wasteOf 29 = .ok (.aload_n 0, 1) := by decide +kernel
theorem dX11_wasteOf_30 : decode cX11_wasteOf 30 = .ok (.iload_n 1, 1) := by decide +kernel
theorem dX11_wasteOf_31 : decode cX11_wasteOf 31 = .ok (.iload 4, 2) := by decide +kernel
theorem dX11_wasteOf_33 : decode cX11_wasteOf 33 = .ok (.invokevirtual 49, 3) := by decide +kernel
theorem dX11_wasteOf_36 : decode cX11_wasteOf 36 = .ok (.goto 10, 3) := by decide +kernel
theorem dX11_wasteOf_39 : decode cX11_wasteOf 39 = .ok (.aload_n 0, 1) := by decide +kernel
theorem dX11_wasteOf_40 : decode cX11_wasteOf 40 = .ok (.iload_n 2, 1) := by decide +kernel
theorem dX11_wasteOf_41 : decode cX11_wasteOf 41 = .ok (.iload 4, 2) := by decide +kernel
theorem dX11_wasteOf_43 : decode cX11_wasteOf 43 = .ok (.invokevirtual 49, 3) := by decide +kernel
theorem dX11_wasteOf_46 : decode cX11_wasteOf 46 = .ok (.istore 5, 2) := by decide +kernel
theorem dX11_wasteOf_48 : decode cX11_wasteOf 48 = .ok (.aload_n 0, 1) := by decide +kernel
theorem dX11_wasteOf_49 : decode cX11_wasteOf 49 = .ok (.iload_n 1, 1) := by decide +kernel
theorem dX11_wasteOf_50 : decode cX11_wasteOf 50 = .ok (.iload 4, 2) := by decide +kernel
theorem dX11_wasteOf_52 : decode cX11_wasteOf 52 = .ok (.iconst 1, 1) := by decide +kernel
theorem dX11_wasteOf_53 : decode cX11_wasteOf 53 = .ok (.iadd, 1) := by decide +kernel
theorem dX11_wasteOf_54 : decode cX11_wasteOf 54 = .ok (.invokevirtual 49, 3) := by decide +kernel
theorem dX11_wasteOf_57 : decode cX11_wasteOf 57 = .ok (.aload_n 0, 1) := by decide +kernel
theorem dX11_wasteOf_58 : decode cX11_wasteOf 58 = .ok (.iload_n 2, 1) := by decide +kernel
theorem dX11_wasteOf_59 : decode cX11_wasteOf 59 = .ok (.iload 4, 2) := by decide +kernel
theorem dX11_wasteOf_61 : decode cX11_wasteOf 61 = .ok (.iconst 1, 1) := by decide +kernel
theorem dX11_wasteOf_62 : decode cX11_wasteOf 62 = .ok (.iadd, 1) := by decide +kernel
theorem dX11_wasteOf_63 : decode cX11_wasteOf 63 = .ok (.invokevirtual 49, 3) := by decide +kernel
theorem dX11_wasteOf_66 : decode cX11_wasteOf 66 = .ok (.if_icmp .le 15, 3) := by decide +kernel
theorem dX11_wasteOf_69 : decode cX11_wasteOf 69 = .ok (.aload_n 0, 1) := by decide +kernel
theorem dX11_wasteOf_70 : decode cX11_wasteOf 70 = .ok (.iload_n 1, 1) := by decide +kernel
theorem dX11_wasteOf_71 : decode cX11_wasteOf 71 = .ok (.iload 4, 2) := by decide +kernel
theorem dX11_wasteOf_73 : decode cX11_wasteOf 73 = .ok (.iconst 1, 1) := by decide +kernel
theorem dX11_wasteOf_74 : decode cX11_wasteOf 74 = .ok (.iadd, 1) := by decide +kernel
theorem dX11_wasteOf_75 : decode cX11_wasteOf 75 = .ok (.invokevirtual 49, 3) := by decide +kernel
theorem dX11_wasteOf_78 : decode cX11_wasteOf 78 = .ok (.goto 12, 3) := by decide +kernel
theorem dX11_wasteOf_81 : decode cX11_wasteOf 81 = .ok (.aload_n 0, 1) := by decide +kernel
theorem dX11_wasteOf_82 : decode cX11_wasteOf 82 = .ok (.iload_n 2, 1) := by decide +kernel
theorem dX11_wasteOf_83 : decode cX11_wasteOf 83 = .ok (.iload 4, 2) := by decide +kernel
theorem dX11_wasteOf_85 : decode cX11_wasteOf 85 = .ok (.iconst 1, 1) := by decide +kernel
theorem dX11_wasteOf_86 : decode cX11_wasteOf 86 = .ok (.iadd, 1) := by decide +kernel
theorem dX11_wasteOf_87 : decode cX11_wasteOf 87 = .ok (.invokevirtual 49, 3) := by decide +kernel
theorem dX11_wasteOf_90 : decode cX11_wasteOf 90 = .ok (.istore 6, 2) := by decide +kernel
theorem dX11_wasteOf_92 : decode cX11_wasteOf 92 = .ok (.aload_n 0, 1) := by decide +kernel
theorem dX11_wasteOf_93 : decode cX11_wasteOf 93 = .ok (.getfield 38, 3) := by decide +kernel
theorem dX11_wasteOf_96 : decode cX11_wasteOf 96 = .ok (.iload 4, 2) := by decide +kernel
theorem dX11_wasteOf_98 : decode cX11_wasteOf 98 = .ok (.iload 5, 2) := by decide +kernel
theorem dX11_wasteOf_100 : decode cX11_wasteOf 100 = .ok (.iastore, 1) := by decide +kernel
theorem dX11_wasteOf_101 : decode cX11_wasteOf 101 = .ok (.aload_n 0, 1) := by decide +kernel
theorem dX11_wasteOf_102 : decode cX11_wasteOf 102 = .ok (.getfield 38, 3) := by decide +kernel
theorem dX11_wasteOf_105 : decode cX11_wasteOf 105 = .ok (.iload 4, 2) := by decide +kernel
theorem dX11_wasteOf_107 : decode cX11_wasteOf 107 = .ok (.iconst 1, 1) := by decide +kernel
theorem dX11_wasteOf_108 : decode cX11_wasteOf 108 = .ok (.iadd, 1) := by decide +kernel
theorem dX11_wasteOf_109 : decode cX11_wasteOf 109 = .ok (.iload 6, 2) := by decide +kernel
theorem dX11_wasteOf_111 : decode cX11_wasteOf 111 = .ok (.iastore, 1) := by decide +kernel
theorem dX11_wasteOf_112 : decode cX11_wasteOf 112 = .ok (.iload_n 3, 1) := by decide +kernel
theorem dX11_wasteOf_113 : decode cX11_wasteOf 113 = .ok (.iload 5, 2) := by decide +kernel
theorem dX11_wasteOf_115 : decode cX11_wasteOf 115 = .ok (.iload 6, 2) := by decide +kernel
theorem dX11_wasteOf_117 : decode cX11_wasteOf 117 = .ok (.invokestatic 53, 3) := by decide +kernel
theorem dX11_wasteOf_120 : decode cX11_wasteOf 120 = .ok (.imul, 1) := by decide +kernel
theorem dX11_wasteOf_121 : decode cX11_wasteOf 121 = .ok (.istore_n 3, 1) := by decide +kernel
theorem dX11_wasteOf_122 : decode cX11_wasteOf 122 = .ok (.iinc 4 2, 3) := by decide +kernel
theorem dX11_wasteOf_125 : decode cX11_wasteOf 125 = .ok (.goto (-120), 3) := by decide +kernel
theorem dX11_wasteOf_128 : decode cX11_wasteOf 128 = .ok (.iload_n 3, 1) := by decide +kernel
theorem dX11_wasteOf_129 : decode cX11_wasteOf 129 = .ok (.aload_n 0, 1) := by decide +kernel
theorem dX11_wasteOf_130 : decode cX11_wasteOf 130 = .ok (.iload_n 1, 1) := by decide +kernel
theorem dX11_wasteOf_131 : decode cX11_wasteOf 131 = .ok (.invokevirtual 74, 3) := by decide +kernel
theorem dX11_wasteOf_134 : decode cX11_wasteOf 134 = .ok (.isub, 1) := by decide +kernel
theorem dX11_wasteOf_135 : decode cX11_wasteOf 135 = .ok (.aload_n 0, 1) := by decide +kernel
theorem dX11_wasteOf_136 : decode cX11_wasteOf 136 = .ok (.iload_n 2, 1) := by decide +kernel
theorem dX11_wasteOf_137 : decode cX11_wasteOf 137 = .ok (.invokevirtual 74, 3) := by decide +kernel
theorem dX11_wasteOf_140 : decode cX11_wasteOf 140 = .ok (.isub, 1) := by decide +kernel
theorem dX11_wasteOf_141 : decode cX11_wasteOf 141 = .ok (.aload_n 0, 1) := by decide +kernel
theorem dX11_wasteOf_142 : decode cX11_wasteOf 142 = .ok (.iload_n 1, 1) := by decide +kernel
theorem dX11_wasteOf_143 : decode cX11_wasteOf 143 = .ok (.iload_n 2, 1) := by decide +kernel
theorem dX11_wasteOf_144 : decode cX11_wasteOf 144 = .ok (.invokevirtual 78, 3) := by decide +kernel
theorem dX11_wasteOf_147 : decode cX11_wasteOf 147 = .ok (.iadd, 1) := by decide +kernel
theorem dX11_wasteOf_148 : decode cX11_wasteOf 148 = .ok (.ireturn, 1) := by decide +kernel
theorem dX11_joins_0 : decode cX11_joins 0 = .ok (.iconst (-1), 1) := by decide +kernel
theorem dX11_joins_1 : decode cX11_joins 1 = .ok (.istore_n 1, 1) := by decide +kernel
theorem dX11_joins_2 : decode cX11_joins 2 = .ok (.iconst 0, 1) := by decide +kernel
theorem dX11_joins_3 : decode cX11_joins 3 = .ok (.istore_n 2, 1) := by decide +kernel
theorem dX11_joins_4 : decode cX11_joins 4 = .ok (.iconst 1, 1) := by decide +kernel
theorem dX11_joins_5 : decode cX11_joins 5 = .ok (.istore_n 3, 1) := by decide +kernel
theorem dX11_joins_6 : decode cX11_joins 6 = .ok (.iconst 0, 1) := by decide +kernel
theorem dX11_joins_7 : decode cX11_joins 7 = .ok (.istore 4, 2) := by decide +kernel
theorem dX11_joins_9 : decode cX11_joins 9 = .ok (.iload 4, 2) := by decide +kernel
theorem dX11_joins_11 : decode cX11_joins 11 = .ok (.aload_n 0, 1) := by decide +kernel
theorem dX11_joins_12 : decode cX11_joins 12 = .ok (.getfield 56, 3) := by decide +kernel
theorem dX11_joins_15 : decode cX11_joins 15 = .ok (.if_icmp .ge 60, 3) := by decide +kernel
theorem dX11_joins_18 : decode cX11_joins 18 = .ok (.iload 4, 2) := by decide +kernel
theorem dX11_joins_20 : decode cX11_joins 20 = .ok (.iconst 1, 1) := by decide +kernel
theorem dX11_joins_21 : decode cX11_joins 21 = .ok (.iadd, 1) := by decide +kernel
theorem dX11_joins_22 : decode cX11_joins 22 = .ok (.istore 5, 2) := by decide +kernel
theorem dX11_joins_24 : decode cX11_joins 24 = .ok (.iload 5, 2) := by decide +kernel
theorem dX11_joins_26 : decode cX11_joins 26 = .ok (.aload_n 0, 1) := by decide +kernel
theorem dX11_joins_27 : decode cX11_joins 27 = .ok (.getfield 56, 3) := by decide +kernel
theorem dX11_joins_30 : decode cX11_joins 30 = .ok (.if_icmp .ge 39, 3) := by decide +kernel
theorem dX11_joins_33 : decode cX11_joins 33 = .ok (.aload_n 0, 1) := by decide +kernel
theorem dX11_joins_34 : decode cX11_joins 34 = .ok (.iload 4, 2) := by decide +kernel
theorem dX11_joins_36 : decode cX11_joins 36 = .ok (.iload 5, 2) := by decide +kernel
theorem dX11_joins_38 : decode cX11_joins 38 = .ok (.invokevirtual 81, 3) := by decide +kernel
theorem dX11_joins_41 : decode cX11_joins 41 = .ok (.istore 6, 2) := by decide +kernel
theorem dX11_joins_43 : decode cX11_joins 43 = .ok (.iload_n 1, 1) := by decide +kernel
theorem dX11_joins_44 : decode cX11_joins 44 = .ok (.iconst (-1), 1) := by decide +kernel
theorem dX11_joins_45 : decode cX11_joins 45 = .ok (.if_icmp .eq 9, 3) := by decide +kernel
theorem dX11_joins_48 : decode cX11_joins 48 = .ok (.iload 6, 2) := by decide +kernel
theorem dX11_joins_50 : decode cX11_joins 50 = .ok (.iload_n 1, 1) := by decide +kernel
theorem dX11_joins_51 : decode cX11_joins 51 = .ok (.if_icmp .ge 12, 3) := by decide +kernel
theorem dX11_joins_54 : decode cX11_joins 54 = .ok (.iload 6, 2) := by decide +kernel
theorem dX11_joins_56 : decode cX11_joins 56 = .ok (.istore_n 1, 1) := by decide +kernel
theorem dX11_joins_57 : decode cX11_joins 57 = .ok (.iload 4, 2) := by decide +kernel
theorem dX11_joins_59 : decode cX11_joins 59 = .ok (.istore_n 2, 1) := by decide +kernel
theorem dX11_joins_60 : decode cX11_joins 60 = .ok (.iload 5, 2) := by decide +kernel
theorem dX11_joins_62 : decode cX11_joins 62 = .ok (.istore_n 3, 1) := by decide +kernel
theorem dX11_joins_63 : decode cX11_joins 63 = .ok (.iinc 5 1, 3) := by decide +kernel
theorem dX11_joins_66 : decode cX11_joins 66 = .ok (.goto (-42), 3) := by decide +kernel
theorem dX11_joins_69 : decode cX11_joins 69 = .ok (.iinc 4 1, 3) := by decide +kernel
theorem dX11_joins_72 : decode cX11_joins 72 = .ok (.goto (-63), 3) := by decide +kernel
theorem dX11_joins_75 : decode cX11_joins 75 = .ok (.aload_n 0, 1) := by decide +kernel
theorem dX11_joins_76 : decode cX11_joins 76 = .ok (.iload_n 2, 1) := by decide +kernel
theorem dX11_joins_77 : decode cX11_joins 77 = .ok (.iload_n 3, 1) := by decide +kernel
theorem dX11_joins_78 : decode cX11_joins 78 = .ok (.invokevirtual 81, 3) := by decide +kernel
theorem dX11_joins_81 : decode cX11_joins 81 = .ok (.pop, 1) := by decide +kernel
theorem dX11_joins_82 : decode cX11_joins 82 = .ok (.iconst 0, 1) := by decide +kernel
theorem dX11_joins_83 : decode cX11_joins 83 = .ok (.istore 4, 2) := by decide +kernel
theorem dX11_joins_85 : decode cX11_joins 85 = .ok (.iload 4, 2) := by decide +kernel
theorem dX11_joins_87 : decode cX11_joins 87 = .ok (.bipush 6, 2) := by decide +kernel
theorem dX11_joins_89 : decode cX11_joins 89 = .ok (.if_icmp .ge 31, 3) := by decide +kernel
theorem dX11_joins_92 : decode cX11_joins 92 = .ok (.aload_n 0, 1) := by decide +kernel
theorem dX11_joins_93 : decode cX11_joins 93 = .ok (.getfield 35, 3) := by decide +kernel
theorem dX11_joins_96 : decode cX11_joins 96 = .ok (.bipush 6, 2) := by decide +kernel
theorem dX11_joins_98 : decode cX11_joins 98 = .ok (.aload_n 0, 1) := by decide +kernel
theorem dX11_joins_99 : decode cX11_joins 99 = .ok (.getfield 56, 3) := by decide +kernel
theorem dX11_joins_102 : decode cX11_joins 102 = .ok (.imul, 1) := by decide +kernel
theorem dX11_joins_103 : decode cX11_joins 103 = .ok (.iload 4, 2) := by decide +kernel
theorem dX11_joins_105 : decode cX11_joins 105 = .ok (.iadd, 1) := by decide +kernel
theorem dX11_joins_106 : decode cX11_joins 106 = .ok (.aload_n 0, 1) := by decide +kernel
theorem dX11_joins_107 : decode cX11_joins 107 = .ok (.getfield 38, 3) := by decide +kernel
theorem dX11_joins_110 : decode cX11_joins 110 = .ok (.iload 4, 2) := by decide +kernel
theorem dX11_joins_112 : decode cX11_joins 112 = .ok (.iaload, 1) := by decide +kernel
theorem dX11_joins_113 : decode cX11_joins 113 = .ok (.iastore, 1) := by decide +kernel
theorem dX11_joins_114 : decode cX11_joins 114 = .ok (.iinc 4 1, 3) := by decide +kernel
theorem dX11_joins_117 : decode cX11_joins 117 = .ok (.goto (-32), 3) := by decide +kernel
theorem dX11_joins_120 : decode cX11_joins 120 = .ok (.aload_n 0, 1) := by decide +kernel
theorem dX11_joins_121 : decode cX11_joins 121 = .ok (.invokevirtual 84, 3) := by decide +kernel
theorem dX11_joins_124 : decode cX11_joins 124 = .ok (.return_, 1) := by decide +kernel
theorem dX11_gathersWishes_0 : decode cX11_gathersWishes 0 = .ok (.iconst 0, 1) := by decide +kernel
theorem dX11_gathersWishes_1 : decode cX11_gathersWishes 1 = .ok (.istore_n 2, 1) := by decide +kernel
theorem dX11_gathersWishes_2 : decode cX11_gathersWishes 2 = .ok (.iload_n 2, 1) := by decide +kernel
theorem dX11_gathersWishes_3 : decode cX11_gathersWishes 3 = .ok (.aload_n 0, 1) := by decide +kernel
theorem dX11_gathersWishes_4 : decode cX11_gathersWishes 4 = .ok (.getfield 7, 3) := by decide +kernel
theorem dX11_gathersWishes_7 : decode cX11_gathersWishes 7 = .ok (.iconst 2, 1) := by decide +kernel
theorem dX11_gathersWishes_8 : decode cX11_gathersWishes 8 = .ok (.iaload, 1) := by decide +kernel
theorem dX11_gathersWishes_9 : decode cX11_gathersWishes 9 = .ok (.if_icmp .ge 64, 3) := by decide +kernel
theorem dX11_gathersWishes_12 : decode cX11_gathersWishes 12 = .ok (.aload_n 0, 1) := by decide +kernel
theorem dX11_gathersWishes_13 : decode cX11_gathersWishes 13 = .ok (.aload_n 0, 1) := by decide +kernel
theorem dX11_gathersWishes_14 : decode cX11_gathersWishes 14 = .ok (.iload_n 2, 1) := by decide +kernel
theorem dX11_gathersWishes_15 : decode cX11_gathersWishes 15 = .ok (.iconst 0, 1) := by decide +kernel
theorem dX11_gathersWishes_16 : decode cX11_gathersWishes 16 = .ok (.invokevirtual 87, 3) := by decide +kernel
theorem dX11_gathersWishes_19 : decode cX11_gathersWishes 19 = .ok (.iconst 0, 1) := by decide +kernel
theorem dX11_gathersWishes_20 : decode cX11_gathersWishes 20 = .ok (.invokevirtual 90, 3) := by decide +kernel
theorem dX11_gathersWishes_23 : decode cX11_gathersWishes 23 = .ok (.iload_n 1, 1) := by decide +kernel
theorem dX11_gathersWishes_24 : decode cX11_gathersWishes 24 = .ok (.if_icmp .ne 43, 3) := by decide +kernel
theorem dX11_gathersWishes_27 : decode cX11_gathersWishes 27 = .ok (.iconst 0, 1) := by decide +kernel
theorem dX11_gathersWishes_28 : decode cX11_gathersWishes 28 = .ok (.istore_n 3, 1) := by decide +kernel
theorem dX11_gathersWishes_29 : decode cX11_gathersWishes 29 = .ok (.iload_n 3, 1) := by decide +kernel
theorem dX11_gathersWishes_30 : decode cX11_gathersWishes 30 = .ok (.bipush 6, 2) := by decide +kernel
theorem dX11_gathersWishes_32 : decode cX11_gathersWishes 32 = .ok (.if_icmp .ge 31, 3) := by decide +kernel
theorem dX11_gathersWishes_35 : decode cX11_gathersWishes 35 = .ok (.aload_n 0, 1) := by decide +kernel
theorem dX11_gathersWishes_36 : decode cX11_gathersWishes 36 = .ok (.getfield 35, 3) := by decide +kernel
theorem dX11_gathersWishes_39 : decode cX11_gathersWishes 39 = .ok (.bipush 6, 2) := by decide +kernel
theorem dX11_gathersWishes_41 : decode cX11_gathersWishes 41 = .ok (.aload_n 0, 1) := by decide +kernel
theorem dX11_gathersWishes_42 : decode cX11_gathersWishes 42 = .ok (.getfield 56, 3) := by decide +kernel
theorem dX11_gathersWishes_45 : decode cX11_gathersWishes 45 = .ok (.imul, 1) := by decide +kernel
theorem dX11_gathersWishes_46 : decode cX11_gathersWishes 46 = .ok (.iload_n 3, 1) := by decide +kernel
theorem dX11_gathersWishes_47 : decode cX11_gathersWishes 47 = .ok (.iadd, 1) := by decide +kernel
theorem dX11_gathersWishes_48 : decode cX11_gathersWishes 48 = .ok (.aload_n 0, 1) := by decide +kernel
theorem dX11_gathersWishes_49 : decode cX11_gathersWishes 49 = .ok (.iload_n 2, 1) := by decide +kernel
theorem dX11_gathersWishes_50 : decode cX11_gathersWishes 50 = .ok (.iconst 1, 1) := by decide +kernel
theorem dX11_gathersWishes_51 : decode cX11_gathersWishes 51 = .ok (.iload_n 3, 1) := by decide +kernel
theorem dX11_gathersWishes_52 : decode cX11_gathersWishes 52 = .ok (.iadd, 1) := by decide +kernel
theorem dX11_gathersWishes_53 : decode cX11_gathersWishes 53 = .ok (.invokevirtual 87, 3) := by decide +kernel
theorem dX11_gathersWishes_56 : decode cX11_gathersWishes 56 = .ok (.iastore, 1) := by decide +kernel
theorem dX11_gathersWishes_57 : decode cX11_gathersWishes 57 = .ok (.iinc 3 1, 3) := by decide +kernel
theorem dX11_gathersWishes_60 : decode cX11_gathersWishes 60 = .ok (.goto (-31), 3) := by decide +kernel
theorem dX11_gathersWishes_63 : decode cX11_gathersWishes 63 = .ok (.aload_n 0, 1) := by decide +kernel
theorem dX11_gathersWishes_64 : decode cX11_gathersWishes 64 = .ok (.invokevirtual 84, 3) := by decide +kernel
theorem dX11_gathersWishes_67 : decode cX11_gathersWishes 67 = .ok (.iinc 2 1, 3) := by decide +kernel
theorem dX11_gathersWishes_70 : decode cX11_gathersWishes 70 = .ok (.goto (-68), 3) := by decide +kernel
theorem dX11_gathersWishes_73 : decode cX11_gathersWishes 73 = .ok (.return_, 1) := by decide +kernel
theorem dX11_gathersLink_0 : decode cX11_gathersLink 0 = .ok (.iconst 0, 1) := by decide +kernel
theorem dX11_gathersLink_1 : decode cX11_gathersLink 1 = .ok (.istore_n 2, 1) := by decide +kernel
theorem dX11_gathersLink_2 : decode cX11_gathersLink 2 = .ok (.iload_n 2, 1) := by decide +kernel
theorem dX11_gathersLink_3 : decode cX11_gathersLink 3 = .ok (.aload_n 0, 1) := by decide +kernel
theorem dX11_gathersLink_4 : decode cX11_gathersLink 4 = .ok (.getfield 29, 3) := by decide +kernel
theorem dX11_gathersLink_7 : decode cX11_gathersLink 7 = .ok (.iload_n 1, 1) := by decide +kernel
theorem dX11_gathersLink_8 : decode cX11_gathersLink 8 = .ok (.iaload, 1) := by decide +kernel
theorem dX11_gathersLink_9 : decode cX11_gathersLink 9 = .ok (.if_icmp .ge 57, 3) := by decide +kernel
theorem dX11_gathersLink_12 : decode cX11_gathersLink 12 = .ok (.iconst 0, 1) := by decide +kernel
theorem dX11_gathersLink_13 : decode cX11_gathersLink 13 = .ok (.istore_n 3, 1) := by decide +kernel
theorem dX11_gathersLink_14 : decode cX11_gathersLink 14 = .ok (.iload_n 3, 1) := by decide +kernel
theorem dX11_gathersLink_15 : decode cX11_gathersLink 15 = .ok (.bipush 6, 2) := by decide +kernel
theorem dX11_gathersLink_17 : decode cX11_gathersLink 17 = .ok (.if_icmp .ge 39, 3) := by decide +kernel
theorem dX11_gathersLink_20 : decode cX11_gathersLink 20 = .ok (.aload_n 0, 1) := by decide +kernel
theorem dX11_gathersLink_21 : decode cX11_gathersLink 21 = .ok (.getfield 35, 3) := by decide +kernel
theorem dX11_gathersLink_24 : decode cX11_gathersLink 24 = .ok (.bipush 6, 2) := by decide +kernel
theorem dX11_gathersLink_26 : decode cX11_gathersLink 26 = .ok (.aload_n 0, 1) := by decide +kernel
theorem dX11_gathersLink_27 : decode cX11_gathersLink 27 = .ok (.getfield 56, 3) := by decide +kernel
theorem dX11_gathersLink_30 : decode cX11_gathersLink 30 = .ok (.imul, 1) := by decide +kernel
theorem dX11_gathersLink_31 : decode cX11_gathersLink 31 = .ok (.iload_n 3, 1) := by decide +kernel
theorem dX11_gathersLink_32 : decode cX11_gathersLink 32 = .ok (.iadd, 1) := by decide +kernel
theorem dX11_gathersLink_33 : decode cX11_gathersLink 33 = .ok (.aload_n 0, 1) := by decide +kernel
theorem dX11_gathersLink_34 : decode cX11_gathersLink 34 = .ok (.getfield 32, 3) := by decide +kernel
theorem dX11_gathersLink_37 : decode cX11_gathersLink 37 = .ok (.bipush 54, 2) := by decide +kernel
theorem dX11_gathersLink_39 : decode cX11_gathersLink 39 = .ok (.iload_n 1, 1) := by decide +kernel
theorem dX11_gathersLink_40 : decode cX11_gathersLink 40 = .ok (.imul, 1) := by decide +kernel
theorem dX11_gathersLink_41 : decode cX11_gathersLink 41 = .ok (.bipush 6, 2) := by decide +kernel
theorem dX11_gathersLink_43 : decode cX11_gathersLink 43 = .ok (.iload_n 2, 1) := by decide +kernel
theorem dX11_gathersLink_44 : decode cX11_gathersLink 44 = .ok (.imul, 1) := by decide +kernel
theorem dX11_gathersLink_45 : decode cX11_gathersLink 45 = .ok (.iadd, 1) := by decide +kernel
theorem dX11_gathersLink_46 : decode cX11_gathersLink 46 = .ok (.iload_n 3, 1) := by decide +kernel
theorem dX11_gathersLink_47 : decode cX11_gathersLink 47 = .ok (.iadd, 1) := by decide +kernel
theorem dX11_gathersLink_48 : decode cX11_gathersLink 48 = .ok (.iaload, 1) := by decide +kernel
theorem dX11_gathersLink_49 : decode cX11_gathersLink 49 = .ok (.iastore, 1) := by decide +kernel
theorem dX11_gathersLink_50 : decode cX11_gathersLink 50 = .ok (.iinc 3 1, 3) := by decide +kernel
theorem dX11_gathersLink_53 : decode cX11_gathersLink 53 = .ok (.goto (-39), 3) := by decide +kernel
theorem dX11_gathersLink_56 : decode cX11_gathersLink 56 = .ok (.aload_n 0, 1) := by decide +kernel
theorem dX11_gathersLink_57 : decode cX11_gathersLink 57 = .ok (.invokevirtual 84, 3) := by decide +kernel
theorem dX11_gathersLink_60 : decode cX11_gathersLink 60 = .ok (.iinc 2 1, 3) := by decide +kernel
theorem dX11_gathersLink_63 : decode cX11_gathersLink 63 = .ok (.goto (-61), 3) := by decide +kernel
theorem dX11_gathersLink_66 : decode cX11_gathersLink 66 = .ok (.return_, 1) := by decide +kernel
theorem dX11_linkOf_0 : decode cX11_linkOf 0 = .ok (.aload_n 0, 1) := by decide +kernel
theorem dX11_linkOf_1 : decode cX11_linkOf 1 = .ok (.getfield 7, 3) := by decide +kernel
theorem dX11_linkOf_4 : decode cX11_linkOf 4 = .ok (.bipush 8, 2) := by decide +kernel
theorem dX11_linkOf_6 : decode cX11_linkOf 6 = .ok (.iload_n 1, 1) := by decide +kernel
theorem dX11_linkOf_7 : decode cX11_linkOf 7 = .ok (.iadd, 1) := by decide +kernel
theorem dX11_linkOf_8 : decode cX11_linkOf 8 = .ok (.iaload, 1) := by decide +kernel
theorem dX11_linkOf_9 : decode cX11_linkOf 9 = .ok (.iload_n 2, 1) := by decide +kernel
theorem dX11_linkOf_10 : decode cX11_linkOf 10 = .ok (.if_icmp .ne 9, 3) := by decide +kernel
theorem dX11_linkOf_13 : decode cX11_linkOf 13 = .ok (.iconst 2, 1) := by decide +kernel
theorem dX11_linkOf_14 : decode cX11_linkOf 14 = .ok (.iload_n 1, 1) := by decide +kernel
theorem dX11_linkOf_15 : decode cX11_linkOf 15 = .ok (.imul, 1) := by decide +kernel
theorem dX11_linkOf_16 : decode cX11_linkOf 16 = .ok (.goto 8, 3) := by decide +kernel
theorem dX11_linkOf_19 : decode cX11_linkOf 19 = .ok (.iconst 2, 1) := by decide +kernel
theorem dX11_linkOf_20 : decode cX11_linkOf 20 = .ok (.iload_n 2, 1) := by decide +kernel
theorem dX11_linkOf_21 : decode cX11_linkOf 21 = .ok (.imul, 1) := by decide +kernel
theorem dX11_linkOf_22 : decode cX11_linkOf 22 = .ok (.iconst 1, 1) := by decide +kernel
theorem dX11_linkOf_23 : decode cX11_linkOf 23 = .ok (.iadd, 1) := by decide +kernel
theorem dX11_linkOf_24 : decode cX11_linkOf 24 = .ok (.ireturn, 1) := by decide +kernel
theorem dX11_laysLink_0 : decode cX11_laysLink 0 = .ok (.aload_n 0, 1) := by decide +kernel
theorem dX11_laysLink_1 : decode cX11_laysLink 1 = .ok (.iconst 0, 1) := by decide +kernel
theorem dX11_laysLink_2 : decode cX11_laysLink 2 = .ok (.putfield 56, 3) := by decide +kernel
theorem dX11_laysLink_5 : decode cX11_laysLink 5 = .ok (.aload_n 0, 1) := by decide +kernel
theorem dX11_laysLink_6 : decode cX11_laysLink 6 = .ok (.iload_n 1, 1) := by decide +kernel
theorem dX11_laysLink_7 : decode cX11_laysLink 7 = .ok (.invokevirtual 93, 3) := by decide +kernel
theorem dX11_laysLink_10 : decode cX11_laysLink 10 = .ok (.iconst 0, 1) := by decide +kernel
theorem dX11_laysLink_11 : decode cX11_laysLink 11 = .ok (.istore_n 3, 1) := by decide +kernel
theorem dX11_laysLink_12 : decode cX11_laysLink 12 = .ok (.iload_n 3, 1) := by decide +kernel
theorem dX11_laysLink_13 : decode cX11_laysLink 13 = .ok (.aload_n 0, 1) := by decide +kernel
theorem dX11_laysLink_14 : decode cX11_laysLink 14 = .ok (.getfield 7, 3) := by decide +kernel
theorem dX11_laysLink_17 : decode cX11_laysLink 17 = .ok (.iconst 0, 1) := by decide +kernel
theorem dX11_laysLink_18 : decode cX11_laysLink 18 = .ok (.iaload, 1) := by decide +kernel
theorem dX11_laysLink_19 : decode cX11_laysLink 19 = .ok (.if_icmp .ge 33, 3) := by decide +kernel
theorem dX11_laysLink_22 : decode cX11_laysLink 22 = .ok (.iload_n 3, 1) := by decide +kernel
theorem dX11_laysLink_23 : decode cX11_laysLink 23 = .ok (.iload_n 2, 1) := by decide +kernel
theorem dX11_laysLink_24 : decode cX11_laysLink 24 = .ok (.if_icmp .eq 22, 3) := by decide +kernel
theorem dX11_laysLink_27 : decode cX11_laysLink 27 = .ok (.aload_n 0, 1) := by decide +kernel
theorem dX11_laysLink_28 : decode cX11_laysLink 28 = .ok (.iload_n 3, 1) := by decide +kernel
theorem dX11_laysLink_29 : decode cX11_laysLink 29 = .ok (.iload_n 1, 1) := by decide +kernel
theorem dX11_laysLink_30 : decode cX11_laysLink 30 = .ok (.invokevirtual 97, 3) := by decide +kernel
theorem dX11_laysLink_33 : decode cX11_laysLink 33 = .ok (.ifCond .eq 13, 3) := by decide +kernel
theorem dX11_laysLink_36 : decode cX11_laysLink 36 = .ok (.aload_n 0, 1) := by decide +kernel
theorem dX11_laysLink_37 : decode cX11_laysLink 37 = .ok (.aload_n 0, 1) := by decide +kernel
theorem dX11_laysLink_38 : decode cX11_laysLink 38 = .ok (.iload_n 3, 1) := by decide +kernel
theorem dX11_laysLink_39 : decode cX11_laysLink 39 = .ok (.iload_n 1, 1) := by decide +kernel
theorem dX11_laysLink_40 : decode cX11_laysLink 40 = .ok (.invokevirtual 100, 3) := by decide +kernel
theorem dX11_laysLink_43 : decode cX11_laysLink 43 = .ok (.invokevirtual 103, 3) := by decide +kernel
theorem dX11_laysLink_46 : decode cX11_laysLink 46 = .ok (.iinc 3 1, 3) := by decide +kernel
theorem dX11_laysLink_49 : decode cX11_laysLink 49 = .ok (.goto (-37), 3) := by decide +kernel
theorem dX11_laysLink_52 : decode cX11_laysLink 52 = .ok (.aload_n 0, 1) := by decide +kernel
theorem dX11_laysLink_53 : decode cX11_laysLink 53 = .ok (.getfield 56, 3) := by decide +kernel
theorem dX11_laysLink_56 : decode cX11_laysLink 56 = .ok (.aload_n 0, 1) := by decide +kernel
theorem dX11_laysLink_57 : decode cX11_laysLink 57 = .ok (.getfield 7, 3) := by decide +kernel
theorem dX11_laysLink_60 : decode cX11_laysLink 60 = .ok (.iconst 3, 1) := by decide +kernel
theorem dX11_laysLink_61 : decode cX11_laysLink 61 = .ok (.iaload, 1) := by decide +kernel
theorem dX11_laysLink_62 : decode cX11_laysLink 62 = .ok (.if_icmp .le 10, 3) := by decide +kernel
theorem dX11_laysLink_65 : decode cX11_laysLink 65 = .ok (.aload_n 0, 1) := by decide +kernel
theorem dX11_laysLink_66 : decode cX11_laysLink 66 = .ok (.invokevirtual 106, 3) := by decide +kernel
theorem dX11_laysLink_69 : decode cX11_laysLink 69 = .ok (.goto (-17), 3) := by decide +kernel
theorem dX11_laysLink_72 : decode cX11_laysLink 72 = .ok (.aload_n 0, 1) := by decide +kernel
theorem dX11_laysLink_73 : decode cX11_laysLink 73 = .ok (.iload_n 1, 1) := by decide +kernel
theorem dX11_laysLink_74 : decode cX11_laysLink 74 = .ok (.iload_n 2, 1) := by decide +kernel
theorem dX11_laysLink_75 : decode cX11_laysLink 75 = .ok (.invokevirtual 100, 3) := by decide +kernel
theorem dX11_laysLink_78 : decode cX11_laysLink 78 = .ok (.istore_n 3, 1) := by decide +kernel
theorem dX11_laysLink_79 : decode cX11_laysLink 79 = .ok (.aload_n 0, 1) := by decide +kernel
theorem dX11_laysLink_80 : decode cX11_laysLink 80 = .ok (.getfield 29, 3) := by decide +kernel
theorem dX11_laysLink_83 : decode cX11_laysLink 83 = .ok (.iload_n 3, 1) := by decide +kernel
theorem dX11_laysLink_84 : decode cX11_laysLink 84 = .ok (.aload_n 0, 1) := by decide +kernel
theorem dX11_laysLink_85 : decode cX11_laysLink 85 = .ok (.getfield 56, 3) := by decide +kernel
theorem dX11_laysLink_88 : decode cX11_laysLink 88 = .ok (.iastore, 1) := by decide +kernel
theorem dX11_laysLink_89 : decode cX11_laysLink 89 = .ok (.iconst 0, 1) := by decide +kernel
theorem dX11_laysLink_90 : decode cX11_laysLink 90 = .ok (.istore 4, 2) := by decide +kernel
theorem dX11_laysLink_92 : decode cX11_laysLink 92 = .ok (.iload 4, 2) := by decide +kernel
theorem dX11_laysLink_94 : decode cX11_laysLink 94 = .ok (.bipush 6, 2) := by decide +kernel
theorem dX11_laysLink_96 : decode cX11_laysLink 96 = .ok (.aload_n 0, 1) := by decide +kernel
theorem dX11_laysLink_97 : decode cX11_laysLink 97 = .ok (.getfield 56, 3) := by decide +kernel
theorem dX11_laysLink_100 : decode cX11_laysLink 100 = .ok (.imul, 1) := by decide +kernel
theorem dX11_laysLink_101 : decode cX11_laysLink 101 = .ok (.if_icmp .ge 28, 3) := by decide +kernel
theorem dX11_laysLink_104 : decode cX11_laysLink 104 = .ok (.aload_n 0, 1) := by decide +kernel
theorem dX11_laysLink_105 : decode cX11_laysLink 105 = .ok (.getfield 32, 3) := by decide +kernel
theorem dX11_laysLink_108 : decode cX11_laysLink 108 = .ok (.bipush 54, 2) := by decide +kernel
theorem dX11_laysLink_110 : decode cX11_laysLink 110 = .ok (.iload_n 3, 1) := by decide +kernel
theorem dX11_laysLink_111 : decode cX11_laysLink 111 = .ok (.imul, 1) := by decide +kernel
theorem dX11_laysLink_112 : decode cX11_laysLink 112 = .ok (.iload 4, 2) := by decide +kernel
theorem dX11_laysLink_114 : decode cX11_laysLink 114 = .ok (.iadd, 1) := by decide +kernel
theorem dX11_laysLink_115 : decode cX11_laysLink 115 = .ok (.aload_n 0, 1) := by decide +kernel
theorem dX11_laysLink_116 : decode cX11_laysLink 116 = .ok (.getfield 35, 3) := by decide +kernel
theorem dX11_laysLink_119 : decode cX11_laysLink 119 = .ok (.iload 4, 2) := by decide +kernel
theorem dX11_laysLink_121 : decode cX11_laysLink 121 = .ok (.iaload, 1) := by decide +kernel
theorem dX11_laysLink_122 : decode cX11_laysLink 122 = .ok (.iastore, 1) := by decide +kernel
theorem dX11_laysLink_123 : decode cX11_laysLink 123 = .ok (.iinc 4 1, 3) := by decide +kernel
theorem dX11_laysLink_126 : decode cX11_laysLink 126 = .ok (.goto (-34), 3) := by decide +kernel
theorem dX11_laysLink_129 : decode cX11_laysLink 129 = .ok (.return_, 1) := by decide +kernel
theorem dX11_lays_0 : decode cX11_lays 0 = .ok (.aload_n 0, 1) := by decide +kernel
theorem dX11_lays_1 : decode cX11_lays 1 = .ok (.getfield 109, 3) := by decide +kernel
theorem dX11_lays_4 : decode cX11_lays 4 = .ok (.ifCond .eq 4, 3) := by decide +kernel
theorem dX11_lays_7 : decode cX11_lays 7 = .ok (.return_, 1) := by decide +kernel
theorem dX11_lays_8 : decode cX11_lays 8 = .ok (.aload_n 0, 1) := by decide +kernel
theorem dX11_lays_9 : decode cX11_lays 9 = .ok (.iconst 1, 1) := by decide +kernel
theorem dX11_lays_10 : decode cX11_lays 10 = .ok (.putfield 109, 3) := by decide +kernel
theorem dX11_lays_13 : decode cX11_lays 13 = .ok (.aload_n 0, 1) := by decide +kernel
theorem dX11_lays_14 : decode cX11_lays 14 = .ok (.getfield 7, 3) := by decide +kernel
theorem dX11_lays_17 : decode cX11_lays 17 = .ok (.iconst 0, 1) := by decide +kernel
theorem dX11_lays_18 : decode cX11_lays 18 = .ok (.iaload, 1) := by decide +kernel
theorem dX11_lays_19 : decode cX11_lays 19 = .ok (.iconst 1, 1) := by decide +kernel
theorem dX11_lays_20 : decode cX11_lays 20 = .ok (.isub, 1) := by decide +kernel
theorem dX11_lays_21 : decode cX11_lays 21 = .ok (.istore_n 1, 1) := by decide +kernel
theorem dX11_lays_22 : decode cX11_lays 22 = .ok (.iload_n 1, 1) := by decide +kernel
theorem dX11_lays_23 : decode cX11_lays 23 = .ok (.ifCond .le 23, 3) := by decide +kernel
theorem dX11_lays_26 : decode cX11_lays 26 = .ok (.aload_n 0, 1) := by decide +kernel
theorem dX11_lays_27 : decode cX11_lays 27 = .ok (.iload_n 1, 1) := by decide +kernel
theorem dX11_lays_28 : decode cX11_lays 28 = .ok (.aload_n 0, 1) := by decide +kernel
theorem dX11_lays_29 : decode cX11_lays 29 = .ok (.getfield 7, 3) := by decide +kernel
theorem dX11_lays_32 : decode cX11_lays 32 = .ok (.bipush 8, 2) := by decide +kernel
theorem dX11_lays_34 : decode cX11_lays 34 = .ok (.iload_n 1, 1) := by decide +kernel
theorem dX11_lays_35 : decode cX11_lays 35 = .ok (.iadd, 1) := by decide +kernel
theorem dX11_lays_36 : decode cX11_lays 36 = .ok (.iaload, 1) := by decide +kernel
theorem dX11_lays_37 : decode cX11_lays 37 = .ok (.invokevirtual 113, 3) := by decide +kernel
theorem dX11_lays_40 : decode cX11_lays 40 = .ok (.iinc 1 (-1), 3) := by decide +kernel
theorem dX11_lays_43 : decode cX11_lays 43 = .ok (.goto (-21), 3) := by decide +kernel
theorem dX11_lays_46 : decode cX11_lays 46 = .ok (.iconst 1, 1) := by decide +kernel
theorem dX11_lays_47 : decode cX11_lays 47 = .ok (.istore_n 1, 1) := by decide +kernel
theorem dX11_lays_48 : decode cX11_lays 48 = .ok (.iload_n 1, 1) := by decide +kernel
theorem dX11_lays_49 : decode cX11_lays 49 = .ok (.aload_n 0, 1) := by decide +kernel
theorem dX11_lays_50 : decode cX11_lays 50 = .ok (.getfield 7, 3) := by decide +kernel
theorem dX11_lays_53 : decode cX11_lays 53 = .ok (.iconst 0, 1) := by decide +kernel
theorem dX11_lays_54 : decode cX11_lays 54 = .ok (.iaload, 1) := by decide +kernel
theorem dX11_lays_55 : decode cX11_lays 55 = .ok (.if_icmp .ge 23, 3) := by decide +kernel
theorem dX11_lays_58 : decode cX11_lays 58 = .ok (.aload_n 0, 1) := by decide +kernel
theorem dX11_lays_59 : decode cX11_lays 59 = .ok (.aload_n 0, 1) := by decide +kernel
theorem dX11_lays_60 : decode cX11_lays 60 = .ok (.getfield 7, 3) := by decide +kernel
theorem dX11_lays_63 : decode cX11_lays 63 = .ok (.bipush 8, 2) := by decide +kernel
theorem dX11_lays_65 : decode cX11_lays 65 = .ok (.iload_n 1, 1) := by decide +kernel
theorem dX11_lays_66 : decode cX11_lays 66 = .ok (.iadd, 1) := by decide +kernel
theorem dX11_lays_67 : decode cX11_lays 67 = .ok (.iaload, 1) := by decide +kernel
theorem dX11_lays_68 : decode cX11_lays 68 = .ok (.iload_n 1, 1) := by decide +kernel
theorem dX11_lays_69 : decode cX11_lays 69 = .ok (.invokevirtual 113, 3) := by decide +kernel
theorem dX11_lays_72 : decode cX11_lays 72 = .ok (.iinc 1 1, 3) := by decide +kernel
theorem dX11_lays_75 : decode cX11_lays 75 = .ok (.goto (-27), 3) := by decide +kernel
theorem dX11_lays_78 : decode cX11_lays 78 = .ok (.return_, 1) := by decide +kernel
theorem dX11_fits_0 : decode cX11_fits 0 = .ok (.iload_n 2, 1) := by decide +kernel
theorem dX11_fits_1 : decode cX11_fits 1 = .ok (.aload_n 0, 1) := by decide +kernel
theorem dX11_fits_2 : decode cX11_fits 2 = .ok (.iload_n 1, 1) := by decide +kernel
theorem dX11_fits_3 : decode cX11_fits 3 = .ok (.iaload, 1) := by decide +kernel
theorem dX11_fits_4 : decode cX11_fits 4 = .ok (.aload_n 0, 1) := by decide +kernel
theorem dX11_fits_5 : decode cX11_fits 5 = .ok (.iload_n 1, 1) := by decide +kernel
theorem dX11_fits_6 : decode cX11_fits 6 = .ok (.iconst 1, 1) := by decide +kernel
theorem dX11_fits_7 : decode cX11_fits 7 = .ok (.iadd, 1) := by decide +kernel
theorem dX11_fits_8 : decode cX11_fits 8 = .ok (.iaload, 1) := by decide +kernel
theorem dX11_fits_9 : decode cX11_fits 9 = .ok (.invokestatic 41, 3) := by decide +kernel
theorem dX11_fits_12 : decode cX11_fits 12 = .ok (.ifCond .eq 42, 3) := by decide +kernel
theorem dX11_fits_15 : decode cX11_fits 15 = .ok (.iload_n 3, 1) := by decide +kernel
theorem dX11_fits_16 : decode cX11_fits 16 = .ok (.aload_n 0, 1) := by decide +kernel
theorem dX11_fits_17 : decode cX11_fits 17 = .ok (.iload_n 1, 1) := by decide +kernel
theorem dX11_fits_18 : decode cX11_fits 18 = .ok (.iconst 2, 1) := by decide +kernel
theorem dX11_fits_19 : decode cX11_fits 19 = .ok (.iadd, 1) := by decide +kernel
theorem dX11_fits_20 : decode cX11_fits 20 = .ok (.iaload, 1) := by decide +kernel
theorem dX11_fits_21 : decode cX11_fits 21 = .ok (.aload_n 0, 1) := by decide +kernel
theorem dX11_fits_22 : decode cX11_fits 22 = .ok (.iload_n 1, 1) := by decide +kernel
theorem dX11_fits_23 : decode cX11_fits 23 = .ok (.iconst 3, 1) := by decide +kernel
theorem dX11_fits_24 : decode cX11_fits 24 = .ok (.iadd, 1) := by decide +kernel
theorem dX11_fits_25 : decode cX11_fits 25 = .ok (.iaload, 1) := by decide +kernel
theorem dX11_fits_26 : decode cX11_fits 26 = .ok (.invokestatic 41, 3) := by decide +kernel
theorem dX11_fits_29 : decode cX11_fits 29 = .ok (.ifCond .eq 25, 3) := by decide +kernel
theorem dX11_fits_32 : decode cX11_fits 32 = .ok (.iload 4, 2) := by decide +kernel
theorem dX11_fits_34 : decode cX11_fits 34 = .ok (.aload_n 0, 1) := by decide +kernel
theorem dX11_fits_35 : decode cX11_fits 35 = .ok (.iload_n 1, 1) := by decide +kernel
theorem dX11_fits_36 : decode cX11_fits 36 = .ok (.iconst 4, 1) := by decide +kernel
theorem dX11_fits_37 : decode cX11_fits 37 = .ok (.iadd, 1) := by decide +kernel
theorem dX11_fits_38 : decode cX11_fits 38 = .ok (.iaload, 1) := by decide +kernel
theorem dX11_fits_39 : decode cX11_fits 39 = .ok (.aload_n 0, 1) := by decide +kernel
theorem dX11_fits_40 : decode cX11_fits 40 = .ok (.iload_n 1, 1) := by decide +kernel
theorem dX11_fits_41 : decode cX11_fits 41 = .ok (.iconst 5, 1) := by decide +kernel
theorem dX11_fits_42 : decode cX11_fits 42 = .ok (.iadd, 1) := by decide +kernel
theorem dX11_fits_43 : decode cX11_fits 43 = .ok (.iaload, 1) := by decide +kernel
theorem dX11_fits_44 : decode cX11_fits 44 = .ok (.invokestatic 41, 3) := by decide +kernel
theorem dX11_fits_47 : decode cX11_fits 47 = .ok (.ifCond .eq 7, 3) := by decide +kernel
theorem dX11_fits_50 : decode cX11_fits 50 = .ok (.iconst 1, 1) := by decide +kernel
theorem dX11_fits_51 : decode cX11_fits 51 = .ok (.goto 4, 3) := by decide +kernel
theorem dX11_fits_54 : decode cX11_fits 54 = .ok (.iconst 0, 1) := by decide +kernel
theorem dX11_fits_55 : decode cX11_fits 55 = .ok (.ireturn, 1) := by decide +kernel
theorem dX11_goes_0 : decode cX11_goes 0 = .ok (.aload_n 0, 1) := by decide +kernel
theorem dX11_goes_1 : decode cX11_goes 1 = .ok (.iload_n 2, 1) := by decide +kernel
theorem dX11_goes_2 : decode cX11_goes 2 = .ok (.iload_n 1, 1) := by decide +kernel
theorem dX11_goes_3 : decode cX11_goes 3 = .ok (.invokevirtual 100, 3) := by decide +kernel
theorem dX11_goes_6 : decode cX11_goes 6 = .ok (.istore 6, 2) := by decide +kernel
theorem dX11_goes_8 : decode cX11_goes 8 = .ok (.iconst 0, 1) := by decide +kernel
theorem dX11_goes_9 : decode cX11_goes 9 = .ok (.istore 7, 2) := by decide +kernel
theorem dX11_goes_11 : decode cX11_goes 11 = .ok (.iconst 0, 1) := by decide +kernel
theorem dX11_goes_12 : decode cX11_goes 12 = .ok (.istore 8, 2) := by decide +kernel
theorem dX11_goes_14 : decode cX11_goes 14 = .ok (.iload 8, 2) := by decide +kernel
theorem dX11_goes_16 : decode cX11_goes 16 = .ok (.aload_n 0, 1) := by decide +kernel
theorem dX11_goes_17 : decode cX11_goes 17 = .ok (.getfield 29, 3) := by decide +kernel
theorem dX11_goes_20 : decode cX11_goes 20 = .ok (.iload 6, 2) := by decide +kernel
theorem dX11_goes_22 : decode cX11_goes 22 = .ok (.iaload, 1) := by decide +kernel
theorem dX11_goes_23 : decode cX11_goes 23 = .ok (.if_icmp .ge 47, 3) := by decide +kernel
theorem dX11_goes_26 : decode cX11_goes 26 = .ok (.iload 7, 2) := by decide +kernel
theorem dX11_goes_28 : decode cX11_goes 28 = .ok (.ifCond .ne 29, 3) := by decide +kernel
theorem dX11_goes_31 : decode cX11_goes 31 = .ok (.aload_n 0, 1) := by decide +kernel
theorem dX11_goes_32 : decode cX11_goes 32 = .ok (.getfield 32, 3) := by decide +kernel
theorem dX11_goes_35 : decode cX11_goes 35 = .ok (.bipush 54, 2) := by decide +kernel
theorem dX11_goes_37 : decode cX11_goes 37 = .ok (.iload 6, 2) := by decide +kernel
theorem dX11_goes_39 : decode cX11_goes 39 = .ok (.imul, 1) := by decide +kernel
theorem dX11_goes_40 : decode cX11_goes 40 = .ok (.bipush 6, 2) := by decide +kernel
theorem dX11_goes_42 : decode cX11_goes 42 = .ok (.iload 8, 2) := by decide +kernel
theorem dX11_goes_44 : decode cX11_goes 44 = .ok (.imul, 1) := by decide +kernel
theorem dX11_goes_45 : decode cX11_goes 45 = .ok (.iadd, 1) := by decide +kernel
theorem dX11_goes_46 : decode cX11_goes 46 = .ok (.iload_n 3, 1) := by decide +kernel
theorem dX11_goes_47 : decode cX11_goes 47 = .ok (.iload 4, 2) := by decide +kernel
theorem dX11_goes_49 : decode cX11_goes 49 = .ok (.iload 5, 2) := by decide +kernel
theorem dX11_goes_51 : decode cX11_goes 51 = .ok (.invokestatic 116, 3) := by decide +kernel
theorem dX11_goes_54 : decode cX11_goes 54 = .ok (.ifCond .eq 7, 3) := by decide +kernel
theorem dX11_goes_57 : decode cX11_goes 57 = .ok (.iconst 1, 1) := by decide +kernel
theorem dX11_goes_58 : decode cX11_goes 58 = .ok (.goto 4, 3) := by decide +kernel
theorem dX11_goes_61 : decode cX11_goes 61 = .ok (.iconst 0, 1) := by decide +kernel
theorem dX11_goes_62 : decode cX11_goes 62 = .ok (.istore 7, 2) := by decide +kernel
theorem dX11_goes_64 : decode cX11_goes 64 = .ok (.iinc 8 1, 3) := by decide +kernel
theorem dX11_goes_67 : decode cX11_goes 67 = .ok (.goto (-53), 3) := by decide +kernel
theorem dX11_goes_70 : decode cX11_goes 70 = .ok (.iload 7, 2) := by decide +kernel
theorem dX11_goes_72 : decode cX11_goes 72 = .ok (.ireturn, 1) := by decide +kernel
theorem dX11_isWished_0 : decode cX11_isWished 0 = .ok (.iconst 0, 1) := by decide +kernel
theorem dX11_isWished_1 : decode cX11_isWished 1 = .ok (.istore 5, 2) := by decide +kernel
theorem dX11_isWished_3 : decode cX11_isWished 3 = .ok (.iconst 0, 1) := by decide +kernel
theorem dX11_isWished_4 : decode cX11_isWished 4 = .ok (.istore 6, 2) := by decide +kernel
theorem dX11_isWished_6 : decode cX11_isWished 6 = .ok (.iload 6, 2) := by decide +kernel
theorem dX11_isWished_8 : decode cX11_isWished 8 = .ok (.aload_n 0, 1) := by decide +kernel
theorem dX11_isWished_9 : decode cX11_isWished 9 = .ok (.getfield 7, 3) := by decide +kernel
theorem dX11_isWished_12 : decode cX11_isWished 12 = .ok (.iconst 2, 1) := by decide +kernel
theorem dX11_isWished_13 : decode cX11_isWished 13 = .ok (.iaload, 1) := by decide +kernel
theorem dX11_isWished_14 : decode cX11_isWished 14 = .ok (.if_icmp .ge 57, 3) := by decide +kernel
theorem dX11_isWished_17 : decode cX11_isWished 17 = .ok (.iload 5, 2) := by decide +kernel
theorem dX11_isWished_19 : decode cX11_isWished 19 = .ok (.ifCond .ne 39, 3) := by decide +kernel
theorem dX11_isWished_22 : decode cX11_isWished 22 = .ok (.aload_n 0, 1) := by decide +kernel
theorem dX11_isWished_23 : decode cX11_isWished 23 = .ok (.iload 6, 2) := by decide +kernel
theorem dX11_isWished_25 : decode cX11_isWished 25 = .ok (.iconst 0, 1) := by decide +kernel
theorem dX11_isWished_26 : decode cX11_isWished 26 = .ok (.invokevirtual 87, 3) := by decide +kernel
theorem dX11_isWished_29 : decode cX11_isWished 29 = .ok (.iload_n 1, 1) := by decide +kernel
theorem dX11_isWished_30 : decode cX11_isWished 30 = .ok (.if_icmp .ne 32, 3) := by decide +kernel
theorem dX11_isWished_33 : decode cX11_isWished 33 = .ok (.aload_n 0, 1) := by decide +kernel
theorem dX11_isWished_34 : decode cX11_isWished 34 = .ok (.getfield 7, 3) := by decide +kernel
theorem dX11_isWished_37 : decode cX11_isWished 37 = .ok (.sipush 170, 3) := by decide +kernel
theorem dX11_isWished_40 : decode cX11_isWished 40 = .ok (.bipush 7, 2) := by decide +kernel
theorem dX11_isWished_42 : decode cX11_isWished 42 = .ok (.iload 6, 2) := by decide +kernel
theorem dX11_isWished_44 : decode cX11_isWished 44 = .ok (.imul, 1) := by decide +kernel
theorem dX11_isWished_45 : decode cX11_isWished 45 = .ok (.iadd, 1) := by decide +kernel
theorem dX11_isWished_46 : decode cX11_isWished 46 = .ok (.iconst 1, 1) := by decide +kernel
theorem dX11_isWished_47 : decode cX11_isWished 47 = .ok (.iadd, 1) := by decide +kernel
theorem dX11_isWished_48 : decode cX11_isWished 48 = .ok (.iload_n 2, 1) := by decide +kernel
theorem dX11_isWished_49 : decode cX11_isWished 49 = .ok (.iload_n 3, 1) := by decide +kernel
theorem dX11_isWished_50 : decode cX11_isWished 50 = .ok (.iload 4, 2) := by decide +kernel
theorem dX11_isWished_52 : decode cX11_isWished 52 = .ok (.invokestatic 116, 3) := by decide +kernel
theorem dX11_isWished_55 : decode cX11_isWished 55 = .ok (.ifCond .eq 7, 3) := by decide +kernel
theorem dX11_isWished_58 : decode cX11_isWished 58 = .ok (.iconst 1, 1) := by decide +kernel
theorem dX11_isWished_59 : decode cX11_isWished 59 = .ok (.goto 4, 3) := by decide +kernel
theorem dX11_isWished_62 : decode cX11_isWished 62 = .ok (.iconst 0, 1) := by decide +kernel
theorem dX11_isWished_63 : decode cX11_isWished 63 = .ok (.istore 5, 2) := by decide +kernel
theorem dX11_isWished_65 : decode cX11_isWished 65 = .ok (.iinc 6 1, 3) := by decide +kernel
theorem dX11_isWished_68 : decode cX11_isWished 68 = .ok (.goto (-62), 3) := by decide +kernel
theorem dX11_isWished_71 : decode cX11_isWished 71 = .ok (.iload 5, 2) := by decide +kernel
theorem dX11_isWished_73 : decode cX11_isWished 73 = .ok (.ireturn, 1) := by decide +kernel
theorem dX11_walks_0 : decode cX11_walks 0 = .ok (.aload_n 0, 1) := by decide +kernel
theorem dX11_walks_1 : decode cX11_walks 1 = .ok (.invokevirtual 120, 3) := by decide +kernel
theorem dX11_walks_4 : decode cX11_walks 4 = .ok (.aload_n 0, 1) := by decide +kernel
theorem dX11_walks_5 : decode cX11_walks 5 = .ok (.iconst 1, 1) := by decide +kernel
theorem dX11_walks_6 : decode cX11_walks 6 = .ok (.iload_n 1, 1) := by decide +kernel
theorem dX11_walks_7 : decode cX11_walks 7 = .ok (.ishl, 1) := by decide +kernel
theorem dX11_walks_8 : decode cX11_walks 8 = .ok (.putfield 123, 3) := by decide +kernel
theorem dX11_walks_11 : decode cX11_walks 11 = .ok (.aload_n 0, 1) := by decide +kernel
theorem dX11_walks_12 : decode cX11_walks 12 = .ok (.iconst 0, 1) := by decide +kernel
theorem dX11_walks_13 : decode cX11_walks 13 = .ok (.putfield 126, 3) := by decide +kernel
theorem dX11_walks_16 : decode cX11_walks 16 = .ok (.iconst 1, 1) := by decide +kernel
theorem dX11_walks_17 : decode cX11_walks 17 = .ok (.istore 5, 2) := by decide +kernel
theorem dX11_walks_19 : decode cX11_walks 19 = .ok (.iconst 0, 1) := by decide +kernel
theorem dX11_walks_20 : decode cX11_walks 20 = .ok (.istore 6, 2) := by decide +kernel
theorem dX11_walks_22 : decode cX11_walks 22 = .ok (.iload 5, 2) := by decide +kernel
theorem dX11_walks_24 : decode cX11_walks 24 = .ok (.ifCond .eq 144, 3) := by decide +kernel
theorem dX11_walks_27 : decode cX11_walks 27 = .ok (.iconst 0, 1) := by decide +kernel
theorem dX11_walks_28 : decode cX11_walks 28 = .ok (.istore 5, 2) := by decide +kernel
theorem dX11_walks_30 : decode cX11_walks 30 = .ok (.iconst 0, 1) := by decide +kernel
theorem dX11_walks_31 : decode cX11_walks 31 = .ok (.istore 7, 2) := by decide +kernel
theorem dX11_walks_33 : decode cX11_walks 33 = .ok (.iload 7, 2) := by decide +kernel
theorem dX11_walks_35 : decode cX11_walks 35 = .ok (.aload_n 0, 1) := by decide +kernel
theorem dX11_walks_36 : decode cX11_walks 36 = .ok (.getfield 7, 3) := by decide +kernel
theorem dX11_walks_39 : decode cX11_walks 39 = .ok (.iconst 0, 1) := by decide +kernel
theorem dX11_walks_40 : decode cX11_walks 40 = .ok (.iaload, 1) := by decide +kernel
theorem dX11_walks_41 : decode cX11_walks 41 = .ok (.aload_n 0, 1) := by decide +kernel
theorem dX11_walks_42 : decode cX11_walks 42 = .ok (.getfield 7, 3) := by decide +kernel
theorem dX11_walks_45 : decode cX11_walks 45 = .ok (.iconst 0, 1) := by decide +kernel
theorem dX11_walks_46 : decode cX11_walks 46 = .ok (.iaload, 1) := by decide +kernel
theorem dX11_walks_47 : decode cX11_walks 47 = .ok (.imul, 1) := by decide +kernel
theorem dX11_walks_48 : decode cX11_walks 48 = .ok (.if_icmp .ge 117, 3) := by decide +kernel
theorem dX11_walks_51 : decode cX11_walks 51 = .ok (.iload 7, 2) := by decide +kernel
theorem dX11_walks_53 : decode cX11_walks 53 = .ok (.aload_n 0, 1) := by decide +kernel
theorem dX11_walks_54 : decode cX11_walks 54 = .ok (.getfield 7, 3) := by decide +kernel
theorem dX11_walks_57 : decode cX11_walks 57 = .ok (.iconst 0, 1) := by decide +kernel
theorem dX11_walks_58 : decode cX11_walks 58 = .ok (.iaload, 1) := by decide +kernel
theorem dX11_walks_59 : decode cX11_walks 59 = .ok (.idiv, 1) := by decide +kernel
theorem dX11_walks_60 : decode cX11_walks 60 = .ok (.istore 8, 2) := by decide +kernel
theorem dX11_walks_62 : decode cX11_walks 62 = .ok (.iload 7, 2) := by decide +kernel
theorem dX11_walks_64 : decode cX11_walks 64 = .ok (.aload_n 0, 1) := by decide +kernel
theorem dX11_walks_65 : decode cX11_walks 65 = .ok (.getfield 7, 3) := by decide +kernel
theorem dX11_walks_68 : decode cX11_walks 68 = .ok (.iconst 0, 1) := by decide +kernel
theorem dX11_walks_69 : decode cX11_walks 69 = .ok (.iaload, 1) := by decide +kernel
theorem dX11_walks_70 : decode cX11_walks 70 = .ok (.irem, 1) := by decide +kernel
theorem dX11_walks_71 : decode cX11_walks 71 = .ok (.istore 9, 2) := by decide +kernel
theorem dX11_walks_73 : decode cX11_walks 73 = .ok (.aload_n 0, 1) := by decide +kernel
theorem dX11_walks_74 : decode cX11_walks 74 = .ok (.getfield 123, 3) := by decide +kernel
theorem dX11_walks_77 : decode cX11_walks 77 = .ok (.iload 8, 2) := by decide +kernel
theorem dX11_walks_79 : decode cX11_walks 79 = .ok (.ishr, 1) := by decide +kernel
theorem dX11_walks_80 : decode cX11_walks 80 = .ok (.iconst 1, 1) := by decide +kernel
theorem dX11_walks_81 : decode cX11_walks 81 = .ok (.iand, 1) := by decide +kernel
theorem dX11_walks_82 : decode cX11_walks 82 = .ok (.iconst 1, 1) := by decide +kernel
theorem dX11_walks_83 : decode cX11_walks 83 = .ok (.if_icmp .ne 76, 3) := by decide +kernel
theorem dX11_walks_86 : decode cX11_walks 86 = .ok (.aload_n 0, 1) := by decide +kernel
theorem dX11_walks_87 : decode cX11_walks 87 = .ok (.getfield 123, 3) := by decide +kernel
theorem dX11_walks_90 : decode cX11_walks 90 = .ok (.iload 9, 2) := by decide +kernel
theorem dX11_walks_92 : decode cX11_walks 92 = .ok (.ishr, 1) := by decide +kernel
theorem dX11_walks_93 : decode cX11_walks 93 = .ok (.iconst 1, 1) := by decide +kernel
theorem dX11_walks_94 : decode cX11_walks 94 = .ok (.iand, 1) := by decide +kernel
theorem dX11_walks_95 : decode cX11_walks 95 = .ok (.ifCond .ne 64, 3) := by decide +kernel
theorem dX11_walks_98 : decode cX11_walks 98 = .ok (.aload_n 0, 1) := by decide +kernel
theorem dX11_walks_99 : decode cX11_walks 99 = .ok (.iload 8, 2) := by decide +kernel
theorem dX11_walks_101 : decode cX11_walks 101 = .ok (.iload 9, 2) := by decide +kernel
theorem dX11_walks_103 : decode cX11_walks 103 = .ok (.invokevirtual 97, 3) := by decide +kernel
theorem dX11_walks_106 : decode cX11_walks 106 = .ok (.ifCond .eq 53, 3) := by decide +kernel
theorem dX11_walks_109 : decode cX11_walks 109 = .ok (.aload_n 0, 1) := by decide +kernel
theorem dX11_walks_110 : decode cX11_walks 110 = .ok (.iload 8, 2) := by decide +kernel
theorem dX11_walks_112 : decode cX11_walks 112 = .ok (.iload 9, 2) := by decide +kernel
theorem dX11_walks_114 : decode cX11_walks 114 = .ok (.iload_n 2, 1) := by decide +kernel
theorem dX11_walks_115 : decode cX11_walks 115 = .ok (.iload_n 3, 1) := by decide +kernel
theorem dX11_walks_116 : decode cX11_walks 116 = .ok (.iload 4, 2) := by decide +kernel
theorem dX11_walks_118 : decode cX11_walks 118 = .ok (.invokevirtual 129, 3) := by decide +kernel
theorem dX11_walks_121 : decode cX11_walks 121 = .ok (.ifCond .eq 38, 3) := by decide +kernel
theorem dX11_walks_124 : decode cX11_walks 124 = .ok (.aload_n 0, 1) := by decide +kernel
theorem dX11_walks_125 : decode cX11_walks 125 = .ok (.dup, 1) := by decide +kernel
theorem dX11_walks_126 : decode cX11_walks 126 = .ok (.getfield 123, 3) := by decide +kernel
theorem dX11_walks_129 : decode cX11_walks 129 = .ok (.iconst 1, 1) := by decide +kernel
theorem dX11_walks_130 : decode cX11_walks 130 = .ok (.iload 9, 2) := by decide +kernel
theorem dX11_walks_132 : decode cX11_walks 132 = .ok (.ishl, 1) := by decide +kernel
theorem dX11_walks_133 : decode cX11_walks 133 = .ok (.ior, 1) := by decide +kernel
theorem dX11_walks_134 : decode cX11_walks 134 = .ok (.putfield 123, 3) := by decide +kernel
theorem dX11_walks_137 : decode cX11_walks 137 = .ok (.iload 6, 2) := by decide +kernel
theorem dX11_walks_139 : decode cX11_walks 139 = .ok (.iconst 1, 1) := by decide +kernel
theorem dX11_walks_140 : decode cX11_walks 140 = .ok (.iload 8, 2) := by decide +kernel
theorem dX11_walks_142 : decode cX11_walks 142 = .ok (.ishl, 1) := by decide +kernel
theorem dX11_walks_143 : decode cX11_walks 143 = .ok (.ior, 1) := by decide +kernel
theorem dX11_walks_144 : decode cX11_walks 144 = .ok (.istore 6, 2) := by decide +kernel
theorem dX11_walks_146 : decode cX11_walks 146 = .ok (.aload_n 0, 1) := by decide +kernel
theorem dX11_walks_147 : decode cX11_walks 147 = .ok (.dup, 1) := by decide +kernel
theorem dX11_walks_148 : decode cX11_walks 148 = .ok (.getfield 126, 3) := by decide +kernel
theorem dX11_walks_151 : decode cX11_walks 151 = .ok (.iconst 1, 1) := by decide +kernel
theorem dX11_walks_152 : decode cX11_walks 152 = .ok (.iadd, 1) := by decide +kernel
theorem dX11_walks_153 : decode cX11_walks 153 = .ok (.putfield 126, 3) := by decide +kernel
theorem dX11_walks_156 : decode cX11_walks 156 = .ok (.iconst 1, 1) := by decide +kernel
theorem dX11_walks_157 : decode cX11_walks 157 = .ok (.istore 5, 2) := by decide +kernel
theorem dX11_walks_159 : decode cX11_walks 159 = .ok (.iinc 7 1, 3) := by decide +kernel
theorem dX11_walks_162 : decode cX11_walks 162 = .ok (.goto (-129), 3) := by decide +kernel
theorem dX11_walks_165 : decode cX11_walks 165 = .ok (.goto (-143), 3) := by decide +kernel
theorem dX11_walks_168 : decode cX11_walks 168 = .ok (.aload_n 0, 1) := by decide +kernel
theorem dX11_walks_169 : decode cX11_walks 169 = .ok (.iconst 0, 1) := by decide +kernel
theorem dX11_walks_170 : decode cX11_walks 170 = .ok (.putfield 133, 3) := by decide +kernel
theorem dX11_walks_173 : decode cX11_walks 173 = .ok (.iload 6, 2) := by decide +kernel
theorem dX11_walks_175 : decode cX11_walks 175 = .ok (.iconst 1, 1) := by decide +kernel
theorem dX11_walks_176 : decode cX11_walks 176 = .ok (.iload_n 1, 1) := by decide +kernel
theorem dX11_walks_177 : decode cX11_walks 177 = .ok (.ishl, 1) := by decide +kernel
theorem dX11_walks_178 : decode cX11_walks 178 = .ok (.ior, 1) := by decide +kernel
theorem dX11_walks_179 : decode cX11_walks 179 = .ok (.istore 7, 2) := by decide +kernel
theorem dX11_walks_181 : decode cX11_walks 181 = .ok (.iconst 0, 1) := by decide +kernel
theorem dX11_walks_182 : decode cX11_walks 182 = .ok (.istore 8, 2) := by decide +kernel
theorem dX11_walks_184 : decode cX11_walks 184 = .ok (.iload 8, 2) := by decide +kernel
theorem dX11_walks_186 : decode cX11_walks 186 = .ok (.aload_n 0, 1) := by decide +kernel
theorem dX11_walks_187 : decode cX11_walks 187 = .ok (.getfield 7, 3) := by decide +kernel
theorem dX11_walks_190 : decode cX11_walks 190 = .ok (.iconst 1, 1) := by decide +kernel
theorem dX11_walks_191 : decode cX11_walks 191 = .ok (.iaload, 1) := by decide +kernel
theorem dX11_walks_192 : decode cX11_walks 192 = .ok (.if_icmp .ge 67, 3) := by decide +kernel
theorem dX11_walks_195 : decode cX11_walks 195 = .ok (.aload_n 0, 1) := by decide +kernel
theorem dX11_walks_196 : decode cX11_walks 196 = .ok (.getfield 123, 3) := by decide +kernel
theorem dX11_walks_199 : decode cX11_walks 199 = .ok (.aload_n 0, 1) := by decide +kernel
theorem dX11_walks_200 : decode cX11_walks 200 = .ok (.iload 8, 2) := by decide +kernel
theorem dX11_walks_202 : decode cX11_walks 202 = .ok (.iconst 0, 1) := by decide +kernel
theorem dX11_walks_203 : decode cX11_walks 203 = .ok (.invokevirtual 90, 3) := by decide +kernel
theorem dX11_walks_206 : decode cX11_walks 206 = .ok (.ishr, 1) := by decide +kernel
theorem dX11_walks_207 : decode cX11_walks 207 = .ok (.iconst 1, 1) := by decide +kernel
theorem dX11_walks_208 : decode cX11_walks 208 = .ok (.iand, 1) := by decide +kernel
theorem dX11_walks_209 : decode cX11_walks 209 = .ok (.iconst 1, 1) := by decide +kernel
theorem dX11_walks_210 : decode cX11_walks 210 = .ok (.if_icmp .ne 43, 3) := by decide +kernel
theorem dX11_walks_213 : decode cX11_walks 213 = .ok (.aload_n 0, 1) := by decide +kernel
theorem dX11_walks_214 : decode cX11_walks 214 = .ok (.iload 8, 2) := by decide +kernel
theorem dX11_walks_216 : decode cX11_walks 216 = .ok (.iload_n 2, 1) := by decide +kernel
theorem dX11_walks_217 : decode cX11_walks 217 = .ok (.iload_n 3, 1) := by decide +kernel
theorem dX11_walks_218 : decode cX11_walks 218 = .ok (.iload 4, 2) := by decide +kernel
theorem dX11_walks_220 : decode cX11_walks 220 = .ok (.invokevirtual 136, 3) := by decide +kernel
theorem dX11_walks_223 : decode cX11_walks 223 = .ok (.ifCond .eq 30, 3) := by decide +kernel
theorem dX11_walks_226 : decode cX11_walks 226 = .ok (.aload_n 0, 1) := by decide +kernel
theorem dX11_walks_227 : decode cX11_walks 227 = .ok (.dup, 1) := by decide +kernel
theorem dX11_walks_228 : decode cX11_walks 228 = .ok (.getfield 133, 3) := by decide +kernel
theorem dX11_walks_231 : decode cX11_walks 231 = .ok (.iconst 1, 1) := by decide +kernel
theorem dX11_walks_232 : decode cX11_walks 232 = .ok (.iload 8, 2) := by decide +kernel
theorem dX11_walks_234 : decode cX11_walks 234 = .ok (.ishl, 1) := by decide +kernel
theorem dX11_walks_235 : decode cX11_walks 235 = .ok (.ior, 1) := by decide +kernel
theorem dX11_walks_236 : decode cX11_walks 236 = .ok (.putfield 133, 3) := by decide +kernel
theorem dX11_walks_239 : decode cX11_walks 239 = .ok (.iload 7, 2) := by decide +kernel
theorem dX11_walks_241 : decode cX11_walks 241 = .ok (.iconst 1, 1) := by decide +kernel
theorem dX11_walks_242 : decode cX11_walks 242 = .ok (.aload_n 0, 1) := by decide +kernel
theorem dX11_walks_243 : decode cX11_walks 243 = .ok (.iload 8, 2) := by decide +kernel
theorem dX11_walks_245 : decode cX11_walks 245 = .ok (.iconst 0, 1) := by decide +kernel
theorem dX11_walks_246 : decode cX11_walks 246 = .ok (.invokevirtual 90, 3) := by decide +kernel
theorem dX11_walks_249 : decode cX11_walks 249 = .ok (.ishl, 1) := by decide +kernel
theorem dX11_walks_250 : decode cX11_walks 250 = .ok (.ior, 1) := by decide +kernel
theorem dX11_walks_251 : decode cX11_walks 251 = .ok (.istore 7, 2) := by decide +kernel
theorem dX11_walks_253 : decode cX11_walks 253 = .ok (.iinc 8 1, 3) := by decide +kernel
theorem dX11_walks_256 : decode cX11_walks 256 = .ok (.goto (-72), 3) := by decide +kernel
theorem dX11_walks_259 : decode cX11_walks 259 = .ok (.aload_n 0, 1) := by decide +kernel
theorem dX11_walks_260 : decode cX11_walks 260 = .ok (.aload_n 0, 1) := by decide +kernel
theorem dX11_walks_261 : decode cX11_walks 261 = .ok (.getfield 123, 3) := by decide +kernel
theorem dX11_walks_264 : decode cX11_walks 264 = .ok (.iload 7, 2) := by decide +kernel
theorem dX11_walks_266 : decode cX11_walks 266 = .ok (.iconst (-1), 1) := by decide +kernel
theorem dX11_walks_267 : decode cX11_walks 267 = .ok (.ixor, 1) := by decide +kernel
theorem dX11_walks_268 : decode cX11_walks 268 = .ok (.iand, 1) := by decide +kernel
theorem dX11_walks_269 : decode cX11_walks 269 = .ok (.putfield 140, 3) := by decide +kernel
theorem dX11_walks_272 : decode cX11_walks 272 = .ok (.return_, 1) := by decide +kernel
theorem dX11_bits_0 : decode cX11_bits 0 = .ok (.iconst 0, 1) := by decide +kernel
theorem dX11_bits_1 : decode cX11_bits 1 = .ok (.istore_n 1, 1) := by decide +kernel
theorem dX11_bits_2 : decode cX11_bits 2 = .ok (.iload_n 0, 1) := by decide +kernel
theorem dX11_bits_3 : decode cX11_bits 3 = .ok (.istore_n 2, 1) := by decide +kernel
theorem dX11_bits_4 : decode cX11_bits 4 = .ok (.iload_n 2, 1) := by decide +kernel
theorem dX11_bits_5 : decode cX11_bits 5 = .ok (.ifCond .le 16, 3) := by decide +kernel
theorem dX11_bits_8 : decode cX11_bits 8 = .ok (.iload_n 1, 1) := by decide +kernel
theorem dX11_bits_9 : decode cX11_bits 9 = .ok (.iload_n 2, 1) := by decide +kernel
theorem dX11_bits_10 : decode cX11_bits 10 = .ok (.iconst 1, 1) := by decide +kernel
theorem dX11_bits_11 : decode cX11_bits 11 = .ok (.iand, 1) := by decide +kernel
theorem dX11_bits_12 : decode cX11_bits 12 = .ok (.iadd, 1) := by decide +kernel
theorem dX11_bits_13 : decode cX11_bits 13 = .ok (.istore_n 1, 1) := by decide +kernel
theorem dX11_bits_14 : decode cX11_bits 14 = .ok (.iload_n 2, 1) := by decide +kernel
theorem dX11_bits_15 : decode cX11_bits 15 = .ok (.iconst 1, 1) := by decide +kernel
theorem dX11_bits_16 : decode cX11_bits 16 = .ok (.ishr, 1) := by decide +kernel
theorem dX11_bits_17 : decode cX11_bits 17 = .ok (.istore_n 2, 1) := by decide +kernel
theorem dX11_bits_18 : decode cX11_bits 18 = .ok (.goto (-14), 3) := by decide +kernel
theorem dX11_bits_21 : decode cX11_bits 21 = .ok (.iload_n 1, 1) := by decide +kernel
theorem dX11_bits_22 : decode cX11_bits 22 = .ok (.ireturn, 1) := by decide +kernel
theorem dX11_logs_0 : decode cX11_logs 0 = .ok (.bipush 11, 2) := by decide +kernel
theorem dX11_logs_2 : decode cX11_logs 2 = .ok (.istore_n 3, 1) := by decide +kernel
theorem dX11_logs_3 : decode cX11_logs 3 = .ok (.iload_n 3, 1) := by decide +kernel
theorem dX11_logs_4 : decode cX11_logs 4 = .ok (.ifCond .le 27, 3) := by decide +kernel
theorem dX11_logs_7 : decode cX11_logs 7 = .ok (.aload_n 0, 1) := by decide +kernel
theorem dX11_logs_8 : decode cX11_logs 8 = .ok (.iload_n 1, 1) := by decide +kernel
theorem dX11_logs_9 : decode cX11_logs 9 = .ok (.iconst 5, 1) := by decide +kernel
theorem dX11_logs_10 : decode cX11_logs 10 = .ok (.iload_n 3, 1) := by decide +kernel
theorem dX11_logs_11 : decode cX11_logs 11 = .ok (.iadd, 1) := by decide +kernel
theorem dX11_logs_12 : decode cX11_logs 12 = .ok (.aload_n 0, 1) := by decide +kernel
theorem dX11_logs_13 : decode cX11_logs 13 = .ok (.iload_n 1, 1) := by decide +kernel
theorem dX11_logs_14 : decode cX11_logs 14 = .ok (.iconst 5, 1) := by decide +kernel
theorem dX11_logs_15 : decode cX11_logs 15 = .ok (.iload_n 3, 1) := by decide +kernel
theorem dX11_logs_16 : decode cX11_logs 16 = .ok (.iadd, 1) := by decide +kernel
theorem dX11_logs_17 : decode cX11_logs 17 = .ok (.iconst 1, 1) := by decide +kernel
theorem dX11_logs_18 : decode cX11_logs 18 = .ok (.isub, 1) := by decide +kernel
theorem dX11_logs_19 : decode cX11_logs 19 = .ok (.invokevirtual 90, 3) := by decide +kernel
theorem dX11_logs_22 : decode cX11_logs 22 = .ok (.invokevirtual 143, 3) := by decide +kernel
theorem dX11_logs_25 : decode cX11_logs 25 = .ok (.iinc 3 (-1), 3) := by decide +kernel
theorem dX11_logs_28 : decode cX11_logs 28 = .ok (.goto (-25), 3) := by decide +kernel
theorem dX11_logs_31 : decode cX11_logs 31 = .ok (.aload_n 0, 1) := by decide +kernel
theorem dX11_logs_32 : decode cX11_logs 32 = .ok (.iload_n 1, 1) := by decide +kernel
theorem dX11_logs_33 : decode cX11_logs 33 = .ok (.iconst 5, 1) := by decide +kernel
theorem dX11_logs_34 : decode cX11_logs 34 = .ok (.iload_n 2, 1) := by decide +kernel
theorem dX11_logs_35 : decode cX11_logs 35 = .ok (.invokevirtual 143, 3) := by decide +kernel
theorem dX11_logs_38 : decode cX11_logs 38 = .ok (.aload_n 0, 1) := by decide +kernel
theorem dX11_logs_39 : decode cX11_logs 39 = .ok (.iload_n 1, 1) := by decide +kernel
theorem dX11_logs_40 : decode cX11_logs 40 = .ok (.iconst 2, 1) := by decide +kernel
theorem dX11_logs_41 : decode cX11_logs 41 = .ok (.aload_n 0, 1) := by decide +kernel
theorem dX11_logs_42 : decode cX11_logs 42 = .ok (.iload_n 1, 1) := by decide +kernel
theorem dX11_logs_43 : decode cX11_logs 43 = .ok (.iconst 2, 1) := by decide +kernel
theorem dX11_logs_44 : decode cX11_logs 44 = .ok (.invokevirtual 90, 3) := by decide +kernel
theorem dX11_logs_47 : decode cX11_logs 47 = .ok (.iconst 1, 1) := by decide +kernel
theorem dX11_logs_48 : decode cX11_logs 48 = .ok (.iadd, 1) := by decide +kernel
theorem dX11_logs_49 : decode cX11_logs 49 = .ok (.invokevirtual 143, 3) := by decide +kernel
theorem dX11_logs_52 : decode cX11_logs 52 = .ok (.return_, 1) := by decide +kernel
theorem dX11_waits_0 : decode cX11_waits 0 = .ok (.aload_n 0, 1) := by decide +kernel
theorem dX11_waits_1 : decode cX11_waits 1 = .ok (.iload_n 1, 1) := by decide +kernel
theorem dX11_waits_2 : decode cX11_waits 2 = .ok (.iconst 4, 1) := by decide +kernel
theorem dX11_waits_3 : decode cX11_waits 3 = .ok (.invokevirtual 90, 3) := by decide +kernel
theorem dX11_waits_6 : decode cX11_waits 6 = .ok (.bipush 8, 2) := by decide +kernel
theorem dX11_waits_8 : decode cX11_waits 8 = .ok (.if_icmp .ne 59, 3) := by decide +kernel
theorem dX11_waits_11 : decode cX11_waits 11 = .ok (.iconst 0, 1) := by decide +kernel
theorem dX11_waits_12 : decode cX11_waits 12 = .ok (.istore_n 3, 1) := by decide +kernel
theorem dX11_waits_13 : decode cX11_waits 13 = .ok (.iload_n 3, 1) := by decide +kernel
theorem dX11_waits_14 : decode cX11_waits 14 = .ok (.bipush 7, 2) := by decide +kernel
theorem dX11_waits_16 : decode cX11_waits 16 = .ok (.if_icmp .ge 29, 3) := by decide +kernel
theorem dX11_waits_19 : decode cX11_waits 19 = .ok (.aload_n 0, 1) := by decide +kernel
theorem dX11_waits_20 : decode cX11_waits 20 = .ok (.iload_n 1, 1) := by decide +kernel
theorem dX11_waits_21 : decode cX11_waits 21 = .ok (.bipush 17, 2) := by decide +kernel
theorem dX11_waits_23 : decode cX11_waits 23 = .ok (.iload_n 3, 1) := by decide +kernel
theorem dX11_waits_24 : decode cX11_waits 24 = .ok (.iadd, 1) := by decide +kernel
theorem dX11_waits_25 : decode cX11_waits 25 = .ok (.aload_n 0, 1) := by decide +kernel
theorem dX11_waits_26 : decode cX11_waits 26 = .ok (.iload_n 1, 1) := by decide +kernel
theorem dX11_waits_27 : decode cX11_waits 27 = .ok (.bipush 17, 2) := by decide +kernel
theorem dX11_waits_29 : decode cX11_waits 29 = .ok (.iload_n 3, 1) := by decide +kernel
theorem dX11_waits_30 : decode cX11_waits 30 = .ok (.iadd, 1) := by decide +kernel
theorem dX11_waits_31 : decode cX11_waits 31 = .ok (.iconst 1, 1) := by decide +kernel
theorem dX11_waits_32 : decode cX11_waits 32 = .ok (.iadd, 1) := by decide +kernel
theorem dX11_waits_33 : decode cX11_waits 33 = .ok (.invokevirtual 90, 3) := by decide +kernel
theorem dX11_waits_36 : decode cX11_waits 36 = .ok (.invokevirtual 143, 3) := by decide +kernel
theorem dX11_waits_39 : decode cX11_waits 39 = .ok (.iinc 3 1, 3) := by decide +kernel
theorem dX11_waits_42 : decode cX11_waits 42 = .ok (.goto (-29), 3) := by decide +kernel
theorem dX11_waits_45 : decode cX11_waits 45 = .ok (.aload_n 0, 1) := by decide +kernel
theorem dX11_waits_46 : decode cX11_waits 46 = .ok (.iload_n 1, 1) := by decide +kernel
theorem dX11_waits_47 : decode cX11_waits 47 = .ok (.iconst 4, 1) := by decide +kernel
theorem dX11_waits_48 : decode cX11_waits 48 = .ok (.bipush 7, 2) := by decide +kernel
theorem dX11_waits_50 : decode cX11_waits 50 = .ok (.invokevirtual 143, 3) := by decide +kernel
theorem dX11_waits_53 : decode cX11_waits 53 = .ok (.aload_n 0, 1) := by decide +kernel
theorem dX11_waits_54 : decode cX11_waits 54 = .ok (.iload_n 1, 1) := by decide +kernel
theorem dX11_waits_55 : decode cX11_waits 55 = .ok (.iconst 3, 1) := by decide +kernel
theorem dX11_waits_56 : decode cX11_waits 56 = .ok (.aload_n 0, 1) := by decide +kernel
theorem dX11_waits_57 : decode cX11_waits 57 = .ok (.iload_n 1, 1) := by decide +kernel
theorem dX11_waits_58 : decode cX11_waits 58 = .ok (.iconst 3, 1) := by decide +kernel
theorem dX11_waits_59 : decode cX11_waits 59 = .ok (.invokevirtual 90, 3) := by decide +kernel
theorem dX11_waits_62 : decode cX11_waits 62 = .ok (.iconst 1, 1) := by decide +kernel
theorem dX11_waits_63 : decode cX11_waits 63 = .ok (.iadd, 1) := by decide +kernel
theorem dX11_waits_64 : decode cX11_waits 64 = .ok (.invokevirtual 143, 3) := by decide +kernel
theorem dX11_waits_67 : decode cX11_waits 67 = .ok (.aload_n 0, 1) := by decide +kernel
theorem dX11_waits_68 : decode cX11_waits 68 = .ok (.iload_n 1, 1) := by decide +kernel
theorem dX11_waits_69 : decode cX11_waits 69 = .ok (.bipush 17, 2) := by decide +kernel
theorem dX11_waits_71 : decode cX11_waits 71 = .ok (.aload_n 0, 1) := by decide +kernel
theorem dX11_waits_72 : decode cX11_waits 72 = .ok (.iload_n 1, 1) := by decide +kernel
theorem dX11_waits_73 : decode cX11_waits 73 = .ok (.iconst 4, 1) := by decide +kernel
theorem dX11_waits_74 : decode cX11_waits 74 = .ok (.invokevirtual 90, 3) := by decide +kernel
theorem dX11_waits_77 : decode cX11_waits 77 = .ok (.iadd, 1) := by decide +kernel
theorem dX11_waits_78 : decode cX11_waits 78 = .ok (.iload_n 2, 1) := by decide +kernel
theorem dX11_waits_79 : decode cX11_waits 79 = .ok (.invokevirtual 143, 3) := by decide +kernel
theorem dX11_waits_82 : decode cX11_waits 82 = .ok (.aload_n 0, 1) := by decide +kernel
theorem dX11_waits_83 : decode cX11_waits 83 = .ok (.iload_n 1, 1) := by decide +kernel
theorem dX11_waits_84 : decode cX11_waits 84 = .ok (.iconst 4, 1) := by decide +kernel
theorem dX11_waits_85 : decode cX11_waits 85 = .ok (.aload_n 0, 1) := by decide +kernel
theorem dX11_waits_86 : decode cX11_waits 86 = .ok (.iload_n 1, 1) := by decide +kernel
theorem dX11_waits_87 : decode cX11_waits 87 = .ok (.iconst 4, 1) := by decide +kernel
theorem dX11_waits_88 : decode cX11_waits 88 = .ok (.invokevirtual 90, 3) := by decide +kernel
theorem dX11_waits_91 : decode cX11_waits 91 = .ok (.iconst 1, 1) := by decide +kernel
theorem dX11_waits_92 : decode cX11_waits 92 = .ok (.iadd, 1) := by decide +kernel
theorem dX11_waits_93 : decode cX11_waits 93 = .ok (.invokevirtual 143, 3) := by decide +kernel
theorem dX11_waits_96 : decode cX11_waits 96 = .ok (.return_, 1) := by decide +kernel
theorem dX11_puts_0 : decode cX11_puts 0 = .ok (.aload_n 0, 1) := by decide +kernel
theorem dX11_puts_1 : decode cX11_puts 1 = .ok (.iload_n 1, 1) := by decide +kernel
theorem dX11_puts_2 : decode cX11_puts 2 = .ok (.iload_n 2, 1) := by decide +kernel
theorem dX11_puts_3 : decode cX11_puts 3 = .ok (.iload_n 3, 1) := by decide +kernel
theorem dX11_puts_4 : decode cX11_puts 4 = .ok (.iload 4, 2) := by decide +kernel
theorem dX11_puts_6 : decode cX11_puts 6 = .ok (.invokevirtual 147, 3) := by decide +kernel
theorem dX11_puts_9 : decode cX11_puts 9 = .ok (.iconst 0, 1) := by decide +kernel
theorem dX11_puts_10 : decode cX11_puts 10 = .ok (.istore 5, 2) := by decide +kernel
theorem dX11_puts_12 : decode cX11_puts 12 = .ok (.iload 5, 2) := by decide +kernel
theorem dX11_puts_14 : decode cX11_puts 14 = .ok (.aload_n 0, 1) := by decide +kernel
theorem dX11_puts_15 : decode cX11_puts 15 = .ok (.getfield 7, 3) := by decide +kernel
theorem dX11_puts_18 : decode cX11_puts 18 = .ok (.iconst 1, 1) := by decide +kernel
theorem dX11_puts_19 : decode cX11_puts 19 = .ok (.iaload, 1) := by decide +kernel
theorem dX11_puts_20 : decode cX11_puts 20 = .ok (.if_icmp .ge 73, 3) := by decide +kernel
theorem dX11_puts_23 : decode cX11_puts 23 = .ok (.aload_n 0, 1) := by decide +kernel
theorem dX11_puts_24 : decode cX11_puts 24 = .ok (.getfield 133, 3) := by decide +kernel
theorem dX11_puts_27 : decode cX11_puts 27 = .ok (.iload 5, 2) := by decide +kernel
theorem dX11_puts_29 : decode cX11_puts 29 = .ok (.ishr, 1) := by decide +kernel
theorem dX11_puts_30 : decode cX11_puts 30 = .ok (.iconst 1, 1) := by decide +kernel
theorem dX11_puts_31 : decode cX11_puts 31 = .ok (.iand, 1) := by decide +kernel
theorem dX11_puts_32 : decode cX11_puts 32 = .ok (.iconst 1, 1) := by decide +kernel
theorem dX11_puts_33 : decode cX11_puts 33 = .ok (.if_icmp .ne 29, 3) := by decide +kernel
theorem dX11_puts_36 : decode cX11_puts 36 = .ok (.aload_n 0, 1) := by decide +kernel
theorem dX11_puts_37 : decode cX11_puts 37 = .ok (.iload 5, 2) := by decide +kernel
theorem dX11_puts_39 : decode cX11_puts 39 = .ok (.iconst 1, 1) := by decide +kernel
theorem dX11_puts_40 : decode cX11_puts 40 = .ok (.invokevirtual 90, 3) := by decide +kernel
theorem dX11_puts_43 : decode cX11_puts 43 = .ok (.iconst 1, 1) := by decide +kernel
theorem dX11_puts_44 : decode cX11_puts 44 = .ok (.if_icmp .ne 18, 3) := by decide +kernel
theorem dX11_puts_47 : decode cX11_puts 47 = .ok (.aload_n 0, 1) := by decide +kernel
theorem dX11_puts_48 : decode cX11_puts 48 = .ok (.iload 5, 2) := by decide +kernel
theorem dX11_puts_50 : decode cX11_puts 50 = .ok (.aload_n 0, 1) := by decide +kernel
theorem dX11_puts_51 : decode cX11_puts 51 = .ok (.getfield 7, 3) := by decide +kernel
theorem dX11_puts_54 : decode cX11_puts 54 = .ok (.iconst 4, 1) := by decide +kernel
theorem dX11_puts_55 : decode cX11_puts 55 = .ok (.iaload, 1) := by decide +kernel
theorem dX11_puts_56 : decode cX11_puts 56 = .ok (.invokevirtual 151, 3) := by decide +kernel
theorem dX11_puts_59 : decode cX11_puts 59 = .ok (.goto 28, 3) := by decide +kernel
theorem dX11_puts_62 : decode cX11_puts 62 = .ok (.aload_n 0, 1) := by decide +kernel
theorem dX11_puts_63 : decode cX11_puts 63 = .ok (.getfield 133, 3) := by decide +kernel
theorem dX11_puts_66 : decode cX11_puts 66 = .ok (.iload 5, 2) := by decide +kernel
theorem dX11_puts_68 : decode cX11_puts 68 = .ok (.ishr, 1) := by decide +kernel
theorem dX11_puts_69 : decode cX11_puts 69 = .ok (.iconst 1, 1) := by decide +kernel
theorem dX11_puts_70 : decode cX11_puts 70 = .ok (.iand, 1) := by decide +kernel
theorem dX11_puts_71 : decode cX11_puts 71 = .ok (.iconst 1, 1) := by decide +kernel
theorem dX11_puts_72 : decode cX11_puts 72 = .ok (.if_icmp .ne 15, 3) := by decide +kernel
theorem dX11_puts_75 : decode cX11_puts 75 = .ok (.aload_n 0, 1) := by decide +kernel
theorem dX11_puts_76 : decode cX11_puts 76 = .ok (.iload 5, 2) := by decide +kernel
theorem dX11_puts_78 : decode cX11_puts 78 = .ok (.aload_n 0, 1) := by decide +kernel
theorem dX11_puts_79 : decode cX11_puts 79 = .ok (.getfield 7, 3) := by decide +kernel
theorem dX11_puts_82 : decode cX11_puts 82 = .ok (.iconst 4, 1) := by decide +kernel
theorem dX11_puts_83 : decode cX11_puts 83 = .ok (.iaload, 1) := by decide +kernel
theorem dX11_puts_84 : decode cX11_puts 84 = .ok (.invokevirtual 154, 3) := by decide +kernel
theorem dX11_puts_87 : decode cX11_puts 87 = .ok (.iinc 5 1, 3) := by decide +kernel
theorem dX11_puts_90 : decode cX11_puts 90 = .ok (.goto (-78), 3) := by decide +kernel
theorem dX11_puts_93 : decode cX11_puts 93 = .ok (.aload_n 0, 1) := by decide +kernel
theorem dX11_puts_94 : decode cX11_puts 94 = .ok (.getfield 7, 3) := by decide +kernel
theorem dX11_puts_97 : decode cX11_puts 97 = .ok (.iconst 4, 1) := by decide +kernel
theorem dX11_puts_98 : decode cX11_puts 98 = .ok (.dup2, 1) := by decide +kernel
theorem dX11_puts_99 : decode cX11_puts 99 = .ok (.iaload, 1) := by decide +kernel
theorem dX11_puts_100 : decode cX11_puts 100 = .ok (.iconst 1, 1) := by decide +kernel
theorem dX11_puts_101 : decode cX11_puts 101 = .ok (.iadd, 1) := by decide +kernel
theorem dX11_puts_102 : decode cX11_puts 102 = .ok (.iastore, 1) := by decide +kernel
theorem dX11_puts_103 : decode cX11_puts 103 = .ok (.aload_n 0, 1) := by decide +kernel
theorem dX11_puts_104 : decode cX11_puts 104 = .ok (.getfield 7, 3) := by decide +kernel
theorem dX11_puts_107 : decode cX11_puts 107 = .ok (.iconst 5, 1) := by decide +kernel
theorem dX11_puts_108 : decode cX11_puts 108 = .ok (.dup2, 1) := by decide +kernel
theorem dX11_puts_109 : decode cX11_puts 109 = .ok (.iaload, 1) := by decide +kernel
theorem dX11_puts_110 : decode cX11_puts 110 = .ok (.aload_n 0, 1) := by decide +kernel
theorem dX11_puts_111 : decode cX11_puts 111 = .ok (.getfield 126, 3) := by decide +kernel
theorem dX11_puts_114 : decode cX11_puts 114 = .ok (.iadd, 1) := by decide +kernel
theorem dX11_puts_115 : decode cX11_puts 115 = .ok (.iastore, 1) := by decide +kernel
theorem dX11_puts_116 : decode cX11_puts 116 = .ok (.aload_n 0, 1) := by decide +kernel
theorem dX11_puts_117 : decode cX11_puts 117 = .ok (.getfield 7, 3) := by decide +kernel
theorem dX11_puts_120 : decode cX11_puts 120 = .ok (.bipush 6, 2) := by decide +kernel
theorem dX11_puts_122 : decode cX11_puts 122 = .ok (.dup2, 1) := by decide +kernel
theorem dX11_puts_123 : decode cX11_puts 123 = .ok (.iaload, 1) := by decide +kernel
theorem dX11_puts_124 : decode cX11_puts 124 = .ok (.aload_n 0, 1) := by decide +kernel
theorem dX11_puts_125 : decode cX11_puts 125 = .ok (.getfield 140, 3) := by decide +kernel
theorem dX11_puts_128 : decode cX11_puts 128 = .ok (.invokestatic 157, 3) := by decide +kernel
theorem dX11_puts_131 : decode cX11_puts 131 = .ok (.iadd, 1) := by decide +kernel
theorem dX11_puts_132 : decode cX11_puts 132 = .ok (.iastore, 1) := by decide +kernel
theorem dX11_puts_133 : decode cX11_puts 133 = .ok (.aload_n 0, 1) := by decide +kernel
theorem dX11_puts_134 : decode cX11_puts 134 = .ok (.getfield 133, 3) := by decide +kernel
theorem dX11_puts_137 : decode cX11_puts 137 = .ok (.invokestatic 157, 3) := by decide +kernel
theorem dX11_puts_140 : decode cX11_puts 140 = .ok (.ireturn, 1) := by decide +kernel
theorem dX11_areThings_0 : decode cX11_areThings 0 = .ok (.iload_n 0, 1) := by decide +kernel
theorem dX11_areThings_1 : decode cX11_areThings 1 = .ok (.iconst 0, 1) := by decide +kernel
theorem dX11_areThings_2 : decode cX11_areThings 2 = .ok (.bipush 9, 2) := by decide +kernel
theorem dX11_areThings_4 : decode cX11_areThings 4 = .ok (.invokestatic 41, 3) := by decide +kernel
theorem dX11_areThings_7 : decode cX11_areThings 7 = .ok (.ifCond .eq 27, 3) := by decide +kernel
theorem dX11_areThings_10 : decode cX11_areThings 10 = .ok (.iload_n 1, 1) := by decide +kernel
theorem dX11_areThings_11 : decode cX11_areThings 11 = .ok (.iconst 0, 1) := by decide +kernel
theorem dX11_areThings_12 : decode cX11_areThings 12 = .ok (.bipush 9, 2) := by decide +kernel
theorem dX11_areThings_14 : decode cX11_areThings 14 = .ok (.invokestatic 41, 3) := by decide +kernel
theorem dX11_areThings_17 : decode cX11_areThings 17 = .ok (.ifCond .eq 17, 3) := by decide +kernel
theorem dX11_areThings_20 : decode cX11_areThings 20 = .ok (.iload_n 2, 1) := by decide +kernel
theorem dX11_areThings_21 : decode cX11_areThings 21 = .ok (.iconst 0, 1) := by decide +kernel
theorem dX11_areThings_22 : decode cX11_areThings 22 = .ok (.bipush 9, 2) := by decide +kernel
theorem dX11_areThings_24 : decode cX11_areThings 24 = .ok (.invokestatic 41, 3) := by decide +kernel
theorem dX11_areThings_27 : decode cX11_areThings 27 = .ok (.ifCond .eq 7, 3) := by decide +kernel
theorem dX11_areThings_30 : decode cX11_areThings 30 = .ok (.iconst 1, 1) := by decide +kernel
theorem dX11_areThings_31 : decode cX11_areThings 31 = .ok (.goto 4, 3) := by decide +kernel
theorem dX11_areThings_34 : decode cX11_areThings 34 = .ok (.iconst 0, 1) := by decide +kernel
theorem dX11_areThings_35 : decode cX11_areThings 35 = .ok (.ireturn, 1) := by decide +kernel
theorem dX11_allTold_0 : decode cX11_allTold 0 = .ok (.aload_n 0, 1) := by decide +kernel
theorem dX11_allTold_1 : decode cX11_allTold 1 = .ok (.invokevirtual 120, 3) := by decide +kernel
theorem dX11_allTold_4 : decode cX11_allTold 4 = .ok (.iconst 0, 1) := by decide +kernel
theorem dX11_allTold_5 : decode cX11_allTold 5 = .ok (.istore_n 1, 1) := by decide +kernel
theorem dX11_allTold_6 : decode cX11_allTold 6 = .ok (.iconst 1, 1) := by decide +kernel
theorem dX11_allTold_7 : decode cX11_allTold 7 = .ok (.istore_n 2, 1) := by decide +kernel
theorem dX11_allTold_8 : decode cX11_allTold 8 = .ok (.iload_n 2, 1) := by decide +kernel
theorem dX11_allTold_9 : decode cX11_allTold 9 = .ok (.aload_n 0, 1) := by decide +kernel
theorem dX11_allTold_10 : decode cX11_allTold 10 = .ok (.getfield 7, 3) := by decide +kernel
theorem dX11_allTold_13 : decode cX11_allTold 13 = .ok (.iconst 0, 1) := by decide +kernel
theorem dX11_allTold_14 : decode cX11_allTold 14 = .ok (.iaload, 1) := by decide +kernel
theorem dX11_allTold_15 : decode cX11_allTold 15 = .ok (.if_icmp .ge 31, 3) := by decide +kernel
theorem dX11_allTold_18 : decode cX11_allTold 18 = .ok (.iload_n 1, 1) := by decide +kernel
theorem dX11_allTold_19 : decode cX11_allTold 19 = .ok (.aload_n 0, 1) := by decide +kernel
theorem dX11_allTold_20 : decode cX11_allTold 20 = .ok (.getfield 29, 3) := by decide +kernel
theorem dX11_allTold_23 : decode cX11_allTold 23 = .ok (.iconst 2, 1) := by decide +kernel
theorem dX11_allTold_24 : decode cX11_allTold 24 = .ok (.iload_n 2, 1) := by decide +kernel
theorem dX11_allTold_25 : decode cX11_allTold 25 = .ok (.imul, 1) := by decide +kernel
theorem dX11_allTold_26 : decode cX11_allTold 26 = .ok (.iaload, 1) := by decide +kernel
theorem dX11_allTold_27 : decode cX11_allTold 27 = .ok (.aload_n 0, 1) := by decide +kernel
theorem dX11_allTold_28 : decode cX11_allTold 28 = .ok (.getfield 29, 3) := by decide +kernel
theorem dX11_allTold_31 : decode cX11_allTold 31 = .ok (.iconst 2, 1) := by decide +kernel
theorem dX11_allTold_32 : decode cX11_allTold 32 = .ok (.iload_n 2, 1) := by decide +kernel
theorem dX11_allTold_33 : decode cX11_allTold 33 = .ok (.imul, 1) := by decide +kernel
theorem dX11_allTold_34 : decode cX11_allTold 34 = .ok (.iconst 1, 1) := by decide +kernel
theorem dX11_allTold_35 : decode cX11_allTold 35 = .ok (.iadd, 1) := by decide +kernel
theorem dX11_allTold_36 : decode cX11_allTold 36 = .ok (.iaload, 1) := by decide +kernel
theorem dX11_allTold_37 : decode cX11_allTold 37 = .ok (.iadd, 1) := by decide +kernel
theorem dX11_allTold_38 : decode cX11_allTold 38 = .ok (.iadd, 1) := by decide +kernel
theorem dX11_allTold_39 : decode cX11_allTold 39 = .ok (.istore_n 1, 1) := by decide +kernel
theorem dX11_allTold_40 : decode cX11_allTold 40 = .ok (.iinc 2 1, 3) := by decide +kernel
theorem dX11_allTold_43 : decode cX11_allTold 43 = .ok (.goto (-35), 3) := by decide +kernel
theorem dX11_allTold_46 : decode cX11_allTold 46 = .ok (.iload_n 1, 1) := by decide +kernel
theorem dX11_allTold_47 : decode cX11_allTold 47 = .ok (.ireturn, 1) := by decide +kernel
theorem dX11_wrong_0 : decode cX11_wrong 0 = .ok (.iconst (-1), 1) := by decide +kernel
theorem dX11_wrong_1 : decode cX11_wrong 1 = .ok (.istore_n 1, 1) := by decide +kernel
theorem dX11_wrong_2 : decode cX11_wrong 2 = .ok (.aload_n 0, 1) := by decide +kernel
theorem dX11_wrong_3 : decode cX11_wrong 3 = .ok (.getfield 160, 3) := by decide +kernel
theorem dX11_wrong_6 : decode cX11_wrong 6 = .ok (.iconst 1, 1) := by decide +kernel
theorem dX11_wrong_7 : decode cX11_wrong 7 = .ok (.isub, 1) := by decide +kernel
theorem dX11_wrong_8 : decode cX11_wrong 8 = .ok (.istore_n 2, 1) := by decide +kernel
theorem dX11_wrong_9 : decode cX11_wrong 9 = .ok (.iload_n 2, 1) := by decide +kernel
theorem dX11_wrong_10 : decode cX11_wrong 10 = .ok (.ifCond .lt 48, 3) := by decide +kernel
theorem dX11_wrong_13 : decode cX11_wrong 13 = .ok (.aload_n 0, 1) := by decide +kernel
theorem dX11_wrong_14 : decode cX11_wrong 14 = .ok (.aload_n 0, 1) := by decide +kernel
theorem dX11_wrong_15 : decode cX11_wrong 15 = .ok (.getfield 23, 3) := by decide +kernel
theorem dX11_wrong_18 : decode cX11_wrong 18 = .ok (.iload_n 2, 1) := by decide +kernel
theorem dX11_wrong_19 : decode cX11_wrong 19 = .ok (.iaload, 1) := by decide +kernel
theorem dX11_wrong_20 : decode cX11_wrong 20 = .ok (.invokevirtual 163, 3) := by decide +kernel
theorem dX11_wrong_23 : decode cX11_wrong 23 = .ok (.ifCond .eq 23, 3) := by decide +kernel
theorem dX11_wrong_26 : decode cX11_wrong 26 = .ok (.aload_n 0, 1) := by decide +kernel
theorem dX11_wrong_27 : decode cX11_wrong 27 = .ok (.aload_n 0, 1) := by decide +kernel
theorem dX11_wrong_28 : decode cX11_wrong 28 = .ok (.getfield 23, 3) := by decide +kernel
theorem dX11_wrong_31 : decode cX11_wrong 31 = .ok (.iload_n 2, 1) := by decide +kernel
theorem dX11_wrong_32 : decode cX11_wrong 32 = .ok (.iaload, 1) := by decide +kernel
theorem dX11_wrong_33 : decode cX11_wrong 33 = .ok (.iconst 2, 1) := by decide +kernel
theorem dX11_wrong_34 : decode cX11_wrong 34 = .ok (.invokevirtual 90, 3) := by decide +kernel
theorem dX11_wrong_37 : decode cX11_wrong 37 = .ok (.aload_n 0, 1) := by decide +kernel
theorem dX11_wrong_38 : decode cX11_wrong 38 = .ok (.getfield 26, 3) := by decide +kernel
theorem dX11_wrong_41 : decode cX11_wrong 41 = .ok (.iload_n 2, 1) := by decide +kernel
theorem dX11_wrong_42 : decode cX11_wrong 42 = .ok (.iaload, 1) := by decide +kernel
theorem dX11_wrong_43 : decode cX11_wrong 43 = .ok (.if_icmp .eq 7, 3) := by decide +kernel
theorem dX11_wrong_46 : decode cX11_wrong 46 = .ok (.iload_n 2, 1) := by decide +kernel
theorem dX11_wrong_47 : decode cX11_wrong 47 = .ok (.goto 4, 3) := by decide +kernel
theorem dX11_wrong_50 : decode cX11_wrong 50 = .ok (.iload_n 1, 1) := by decide +kernel
theorem dX11_wrong_51 : decode cX11_wrong 51 = .ok (.istore_n 1, 1) := by decide +kernel
theorem dX11_wrong_52 : decode cX11_wrong 52 = .ok (.iinc 2 (-1), 3) := by decide +kernel
theorem dX11_wrong_55 : decode cX11_wrong 55 = .ok (.goto (-46), 3) := by decide +kernel
theorem dX11_wrong_58 : decode cX11_wrong 58 = .ok (.iload_n 1, 1) := by decide +kernel
theorem dX11_wrong_59 : decode cX11_wrong 59 = .ok (.ireturn, 1) := by decide +kernel
theorem dX11_told_0 : decode cX11_told 0 = .ok (.iload_n 1, 1) := by decide +kernel
theorem dX11_told_1 : decode cX11_told 1 = .ok (.tableswitch 110 0 11 #[63, 63, 63, 63, 63, 70, 75, 82, 90, 95, 100, 105], 63) := by decide +kernel
theorem dX11_told_64 : decode cX11_told 64 = .ok (.aload_n 0, 1) := by decide +kernel
theorem dX11_told_65 : decode cX11_told 65 = .ok (.getfield 7, 3) := by decide +kernel
theorem dX11_told_68 : decode cX11_told 68 = .ok (.iload_n 1, 1) := by decide +kernel
theorem dX11_told_69 : decode cX11_told 69 = .ok (.iaload, 1) := by decide +kernel
theorem dX11_told_70 : decode cX11_told 70 = .ok (.ireturn, 1) := by decide +kernel
theorem dX11_told_71 : decode cX11_told 71 = .ok (.aload_n 0, 1) := by decide +kernel
theorem dX11_told_72 : decode cX11_told 72 = .ok (.invokevirtual 166, 3) := by decide +kernel
theorem dX11_told_75 : decode cX11_told 75 = .ok (.ireturn, 1) := by decide +kernel
theorem dX11_told_76 : decode cX11_told 76 = .ok (.aload_n 0, 1) := by decide +kernel
theorem dX11_told_77 : decode cX11_told 77 = .ok (.getfield 7, 3) := by decide +kernel
theorem dX11_told_80 : decode cX11_told 80 = .ok (.iconst 5, 1) := by decide +kernel
theorem dX11_told_81 : decode cX11_told 81 = .ok (.iaload, 1) := by decide +kernel
theorem dX11_told_82 : decode cX11_told 82 = .ok (.ireturn, 1) := by decide +kernel
theorem dX11_told_83 : decode cX11_told 83 = .ok (.aload_n 0, 1) := by decide +kernel
theorem dX11_told_84 : decode cX11_told 84 = .ok (.getfield 7, 3) := by decide +kernel
theorem dX11_told_87 : decode cX11_told 87 = .ok (.bipush 6, 2) := by decide +kernel
theorem dX11_told_89 : decode cX11_told 89 = .ok (.iaload, 1) := by decide +kernel
theorem dX11_told_90 : decode cX11_told 90 = .ok (.ireturn, 1) := by decide +kernel
theorem dX11_told_91 : decode cX11_told 91 = .ok (.aload_n 0, 1) := by decide +kernel
theorem dX11_told_92 : decode cX11_told 92 = .ok (.getfield 160, 3) := by decide +kernel
theorem dX11_told_95 : decode cX11_told 95 = .ok (.ireturn, 1) := by decide +kernel
theorem dX11_told_96 : decode cX11_told 96 = .ok (.aload_n 0, 1) := by decide +kernel
theorem dX11_told_97 : decode cX11_told 97 = .ok (.invokevirtual 170, 3) := by decide +kernel
theorem dX11_told_100 : decode cX11_told 100 = .ok (.ireturn, 1) := by decide +kernel
theorem dX11_told_101 : decode cX11_told 101 = .ok (.aload_n 0, 1) := by decide +kernel
theorem dX11_told_102 : decode cX11_told 102 = .ok (.getfield 173, 3) := by decide +kernel
theorem dX11_told_105 : decode cX11_told 105 = .ok (.ireturn, 1) := by decide +kernel
theorem dX11_told_106 : decode cX11_told 106 = .ok (.aload_n 0, 1) := by decide +kernel
theorem dX11_told_107 : decode cX11_told 107 = .ok (.getfield 176, 3) := by decide +kernel
theorem dX11_told_110 : decode cX11_told 110 = .ok (.ireturn, 1) := by decide +kernel
theorem dX11_told_111 : decode cX11_told 111 = .ok (.ldc 179, 2) := by decide +kernel
theorem dX11_told_113 : decode cX11_told 113 = .ok (.ireturn, 1) := by decide +kernel
theorem dX11_brokerAt_0 : decode cX11_brokerAt 0 = .ok (.aload_n 0, 1) := by decide +kernel
theorem dX11_brokerAt_1 : decode cX11_brokerAt 1 = .ok (.iload_n 1, 1) := by decide +kernel
theorem dX11_brokerAt_2 : decode cX11_brokerAt 2 = .ok (.invokevirtual 45, 3) := by decide +kernel
theorem dX11_brokerAt_5 : decode cX11_brokerAt 5 = .ok (.ifCond .ne 6, 3) := by decide +kernel
theorem dX11_brokerAt_8 : decode cX11_brokerAt 8 = .ok (.ldc 180, 2) := by decide +kernel
theorem dX11_brokerAt_10 : decode cX11_brokerAt 10 = .ok (.ireturn, 1) := by decide +kernel
theorem dX11_brokerAt_11 : decode cX11_brokerAt 11 = .ok (.iconst 0, 1) := by decide +kernel
theorem dX11_brokerAt_12 : decode cX11_brokerAt 12 = .ok (.istore_n 3, 1) := by decide +kernel
theorem dX11_brokerAt_13 : decode cX11_brokerAt 13 = .ok (.iload_n 2, 1) := by decide +kernel
theorem dX11_brokerAt_14 : decode cX11_brokerAt 14 = .ok (.tableswitch 176 0 3 #[30, 40, 83, 127], 30) := by decide +kernel
theorem dX11_brokerAt_44 : decode cX11_brokerAt 44 = .ok (.aload_n 0, 1) := by decide +kernel
theorem dX11_brokerAt_45 : decode cX11_brokerAt 45 = .ok (.getfield 7, 3) := by decide +kernel
theorem dX11_brokerAt_48 : decode cX11_brokerAt 48 = .ok (.bipush 8, 2) := by decide +kernel
theorem dX11_brokerAt_50 : decode cX11_brokerAt 50 = .ok (.iload_n 1, 1) := by decide +kernel
theorem dX11_brokerAt_51 : decode cX11_brokerAt 51 = .ok (.iadd, 1) := by decide +kernel
theorem dX11_brokerAt_52 : decode cX11_brokerAt 52 = .ok (.iaload, 1) := by decide +kernel
theorem dX11_brokerAt_53 : decode cX11_brokerAt 53 = .ok (.ireturn, 1) := by decide +kernel
theorem dX11_brokerAt_54 : decode cX11_brokerAt 54 = .ok (.iconst 0, 1) := by decide +kernel
theorem dX11_brokerAt_55 : decode cX11_brokerAt 55 = .ok (.istore 4, 2) := by decide +kernel
theorem dX11_brokerAt_57 : decode cX11_brokerAt 57 = .ok (.iload 4, 2) := by decide +kernel
theorem dX11_brokerAt_59 : decode cX11_brokerAt 59 = .ok (.aload_n 0, 1) := by decide +kernel
theorem dX11_brokerAt_60 : decode cX11_brokerAt 60 = .ok (.getfield 7, 3) := by decide +kernel
theorem dX11_brokerAt_63 : decode cX11_brokerAt 63 = .ok (.iconst 0, 1) := by decide +kernel
theorem dX11_brokerAt_64 : decode cX11_brokerAt 64 = .ok (.iaload, 1) := by decide +kernel
theorem dX11_brokerAt_65 : decode cX11_brokerAt 65 = .ok (.if_icmp .ge 30, 3) := by decide +kernel
theorem dX11_brokerAt_68 : decode cX11_brokerAt 68 = .ok (.iload_n 3, 1) := by decide +kernel
theorem dX11_brokerAt_69 : decode cX11_brokerAt 69 = .ok (.aload_n 0, 1) := by decide +kernel
theorem dX11_brokerAt_70 : decode cX11_brokerAt 70 = .ok (.iload_n 1, 1) := by decide +kernel
theorem dX11_brokerAt_71 : decode cX11_brokerAt 71 = .ok (.iload 4, 2) := by decide +kernel
theorem dX11_brokerAt_73 : decode cX11_brokerAt 73 = .ok (.invokevirtual 97, 3) := by decide +kernel
theorem dX11_brokerAt_76 : decode cX11_brokerAt 76 = .ok (.ifCond .eq 10, 3) := by decide +kernel
theorem dX11_brokerAt_79 : decode cX11_brokerAt 79 = .ok (.iconst 1, 1) := by decide +kernel
theorem dX11_brokerAt_80 : decode cX11_brokerAt 80 = .ok (.iload 4, 2) := by decide +kernel
theorem dX11_brokerAt_82 : decode cX11_brokerAt 82 = .ok (.ishl, 1) := by decide +kernel
theorem dX11_brokerAt_83 : decode cX11_brokerAt 83 = .ok (.goto 4, 3) := by decide +kernel
end
section
theorem dX11_brokerAt_86 : decode cX11_brokerAt 86 = .ok (.iconst 0, 1) := by decide +kernel
theorem dX11_brokerAt_87 : decode cX11_brokerAt 87 = .ok (.ior, 1) := by decide +kernel
theorem dX11_brokerAt_88 : decode cX11_brokerAt 88 = .ok (.istore_n 3, 1) := by decide +kernel
theorem dX11_brokerAt_89 : decode cX11_brokerAt 89 = .ok (.iinc 4 1, 3) := by decide +kernel
theorem dX11_brokerAt_92 : decode cX11_brokerAt 92 = .ok (.goto (-35), 3) := by decide +kernel
theorem dX11_brokerAt_95 : decode cX11_brokerAt 95 = .ok (.iload_n 3, 1) := by decide +kernel
theorem dX11_brokerAt_96 : decode cX11_brokerAt 96 = .ok (.ireturn, 1) := by decide +kernel
theorem dX11_brokerAt_97 : decode cX11_brokerAt 97 = .ok (.iconst 0, 1) := by decide +kernel
theorem dX11_brokerAt_98 : decode cX11_brokerAt 98 = .ok (.istore 4, 2) := by decide +kernel
theorem dX11_brokerAt_100 : decode cX11_brokerAt 100 = .ok (.iload 4, 2) := by decide +kernel
theorem dX11_brokerAt_102 : decode cX11_brokerAt 102 = .ok (.aload_n 0, 1) := by decide +kernel
theorem dX11_brokerAt_103 : decode cX11_brokerAt 103 = .ok (.getfield 7, 3) := by decide +kernel
theorem dX11_brokerAt_106 : decode cX11_brokerAt 106 = .ok (.iconst 1, 1) := by decide +kernel
theorem dX11_brokerAt_107 : decode cX11_brokerAt 107 = .ok (.iaload, 1) := by decide +kernel
theorem dX11_brokerAt_108 : decode cX11_brokerAt 108 = .ok (.if_icmp .ge 31, 3) := by decide +kernel
theorem dX11_brokerAt_111 : decode cX11_brokerAt 111 = .ok (.iload_n 3, 1) := by decide +kernel
theorem dX11_brokerAt_112 : decode cX11_brokerAt 112 = .ok (.aload_n 0, 1) := by decide +kernel
theorem dX11_brokerAt_113 : decode cX11_brokerAt 113 = .ok (.iload 4, 2) := by decide +kernel
theorem dX11_brokerAt_115 : decode cX11_brokerAt 115 = .ok (.iconst 0, 1) := by decide +kernel
theorem dX11_brokerAt_116 : decode cX11_brokerAt 116 = .ok (.invokevirtual 90, 3) := by decide +kernel
theorem dX11_brokerAt_119 : decode cX11_brokerAt 119 = .ok (.iload_n 1, 1) := by decide +kernel
theorem dX11_brokerAt_120 : decode cX11_brokerAt 120 = .ok (.if_icmp .ne 10, 3) := by decide +kernel
theorem dX11_brokerAt_123 : decode cX11_brokerAt 123 = .ok (.iconst 1, 1) := by decide +kernel
theorem dX11_brokerAt_124 : decode cX11_brokerAt 124 = .ok (.iload 4, 2) := by decide +kernel
theorem dX11_brokerAt_126 : decode cX11_brokerAt 126 = .ok (.ishl, 1) := by decide +kernel
theorem dX11_brokerAt_127 : decode cX11_brokerAt 127 = .ok (.goto 4, 3) := by decide +kernel
theorem dX11_brokerAt_130 : decode cX11_brokerAt 130 = .ok (.iconst 0, 1) := by decide +kernel
theorem dX11_brokerAt_131 : decode cX11_brokerAt 131 = .ok (.ior, 1) := by decide +kernel
theorem dX11_brokerAt_132 : decode cX11_brokerAt 132 = .ok (.istore_n 3, 1) := by decide +kernel
theorem dX11_brokerAt_133 : decode cX11_brokerAt 133 = .ok (.iinc 4 1, 3) := by decide +kernel
theorem dX11_brokerAt_136 : decode cX11_brokerAt 136 = .ok (.goto (-36), 3) := by decide +kernel
theorem dX11_brokerAt_139 : decode cX11_brokerAt 139 = .ok (.iload_n 3, 1) := by decide +kernel
theorem dX11_brokerAt_140 : decode cX11_brokerAt 140 = .ok (.ireturn, 1) := by decide +kernel
theorem dX11_brokerAt_141 : decode cX11_brokerAt 141 = .ok (.iconst 0, 1) := by decide +kernel
theorem dX11_brokerAt_142 : decode cX11_brokerAt 142 = .ok (.istore 4, 2) := by decide +kernel
theorem dX11_brokerAt_144 : decode cX11_brokerAt 144 = .ok (.iload 4, 2) := by decide +kernel
theorem dX11_brokerAt_146 : decode cX11_brokerAt 146 = .ok (.aload_n 0, 1) := by decide +kernel
theorem dX11_brokerAt_147 : decode cX11_brokerAt 147 = .ok (.getfield 7, 3) := by decide +kernel
theorem dX11_brokerAt_150 : decode cX11_brokerAt 150 = .ok (.iconst 2, 1) := by decide +kernel
theorem dX11_brokerAt_151 : decode cX11_brokerAt 151 = .ok (.iaload, 1) := by decide +kernel
theorem dX11_brokerAt_152 : decode cX11_brokerAt 152 = .ok (.if_icmp .ge 36, 3) := by decide +kernel
theorem dX11_brokerAt_155 : decode cX11_brokerAt 155 = .ok (.iload_n 3, 1) := by decide +kernel
theorem dX11_brokerAt_156 : decode cX11_brokerAt 156 = .ok (.aload_n 0, 1) := by decide +kernel
theorem dX11_brokerAt_157 : decode cX11_brokerAt 157 = .ok (.aload_n 0, 1) := by decide +kernel
theorem dX11_brokerAt_158 : decode cX11_brokerAt 158 = .ok (.iload 4, 2) := by decide +kernel
theorem dX11_brokerAt_160 : decode cX11_brokerAt 160 = .ok (.iconst 0, 1) := by decide +kernel
theorem dX11_brokerAt_161 : decode cX11_brokerAt 161 = .ok (.invokevirtual 87, 3) := by decide +kernel
theorem dX11_brokerAt_164 : decode cX11_brokerAt 164 = .ok (.iconst 0, 1) := by decide +kernel
theorem dX11_brokerAt_165 : decode cX11_brokerAt 165 = .ok (.invokevirtual 90, 3) := by decide +kernel
theorem dX11_brokerAt_168 : decode cX11_brokerAt 168 = .ok (.iload_n 1, 1) := by decide +kernel
theorem dX11_brokerAt_169 : decode cX11_brokerAt 169 = .ok (.if_icmp .ne 10, 3) := by decide +kernel
theorem dX11_brokerAt_172 : decode cX11_brokerAt 172 = .ok (.iconst 1, 1) := by decide +kernel
theorem dX11_brokerAt_173 : decode cX11_brokerAt 173 = .ok (.iload 4, 2) := by decide +kernel
theorem dX11_brokerAt_175 : decode cX11_brokerAt 175 = .ok (.ishl, 1) := by decide +kernel
theorem dX11_brokerAt_176 : decode cX11_brokerAt 176 = .ok (.goto 4, 3) := by decide +kernel
theorem dX11_brokerAt_179 : decode cX11_brokerAt 179 = .ok (.iconst 0, 1) := by decide +kernel
theorem dX11_brokerAt_180 : decode cX11_brokerAt 180 = .ok (.ior, 1) := by decide +kernel
theorem dX11_brokerAt_181 : decode cX11_brokerAt 181 = .ok (.istore_n 3, 1) := by decide +kernel
theorem dX11_brokerAt_182 : decode cX11_brokerAt 182 = .ok (.iinc 4 1, 3) := by decide +kernel
theorem dX11_brokerAt_185 : decode cX11_brokerAt 185 = .ok (.goto (-41), 3) := by decide +kernel
theorem dX11_brokerAt_188 : decode cX11_brokerAt 188 = .ok (.iload_n 3, 1) := by decide +kernel
theorem dX11_brokerAt_189 : decode cX11_brokerAt 189 = .ok (.ireturn, 1) := by decide +kernel
theorem dX11_brokerAt_190 : decode cX11_brokerAt 190 = .ok (.ldc 179, 2) := by decide +kernel
theorem dX11_brokerAt_192 : decode cX11_brokerAt 192 = .ok (.ireturn, 1) := by decide +kernel
theorem dX11_clientAt_0 : decode cX11_clientAt 0 = .ok (.aload_n 0, 1) := by decide +kernel
theorem dX11_clientAt_1 : decode cX11_clientAt 1 = .ok (.iload_n 1, 1) := by decide +kernel
theorem dX11_clientAt_2 : decode cX11_clientAt 2 = .ok (.invokevirtual 163, 3) := by decide +kernel
theorem dX11_clientAt_5 : decode cX11_clientAt 5 = .ok (.ifCond .ne 6, 3) := by decide +kernel
theorem dX11_clientAt_8 : decode cX11_clientAt 8 = .ok (.ldc 180, 2) := by decide +kernel
theorem dX11_clientAt_10 : decode cX11_clientAt 10 = .ok (.ireturn, 1) := by decide +kernel
theorem dX11_clientAt_11 : decode cX11_clientAt 11 = .ok (.iconst 0, 1) := by decide +kernel
theorem dX11_clientAt_12 : decode cX11_clientAt 12 = .ok (.istore_n 3, 1) := by decide +kernel
theorem dX11_clientAt_13 : decode cX11_clientAt 13 = .ok (.iload_n 2, 1) := by decide +kernel
theorem dX11_clientAt_14 : decode cX11_clientAt 14 = .ok (.tableswitch 117 0 5 #[38, 45, 52, 59, 66, 73], 38) := by decide +kernel
theorem dX11_clientAt_52 : decode cX11_clientAt 52 = .ok (.aload_n 0, 1) := by decide +kernel
theorem dX11_clientAt_53 : decode cX11_clientAt 53 = .ok (.iload_n 1, 1) := by decide +kernel
theorem dX11_clientAt_54 : decode cX11_clientAt 54 = .ok (.iconst 0, 1) := by decide +kernel
theorem dX11_clientAt_55 : decode cX11_clientAt 55 = .ok (.invokevirtual 90, 3) := by decide +kernel
theorem dX11_clientAt_58 : decode cX11_clientAt 58 = .ok (.ireturn, 1) := by decide +kernel
theorem dX11_clientAt_59 : decode cX11_clientAt 59 = .ok (.aload_n 0, 1) := by decide +kernel
theorem dX11_clientAt_60 : decode cX11_clientAt 60 = .ok (.iload_n 1, 1) := by decide +kernel
theorem dX11_clientAt_61 : decode cX11_clientAt 61 = .ok (.iconst 1, 1) := by decide +kernel
theorem dX11_clientAt_62 : decode cX11_clientAt 62 = .ok (.invokevirtual 90, 3) := by decide +kernel
theorem dX11_clientAt_65 : decode cX11_clientAt 65 = .ok (.ireturn, 1) := by decide +kernel
theorem dX11_clientAt_66 : decode cX11_clientAt 66 = .ok (.aload_n 0, 1) := by decide +kernel
theorem dX11_clientAt_67 : decode cX11_clientAt 67 = .ok (.iload_n 1, 1) := by decide +kernel
theorem dX11_clientAt_68 : decode cX11_clientAt 68 = .ok (.iconst 2, 1) := by decide +kernel
theorem dX11_clientAt_69 : decode cX11_clientAt 69 = .ok (.invokevirtual 90, 3) := by decide +kernel
theorem dX11_clientAt_72 : decode cX11_clientAt 72 = .ok (.ireturn, 1) := by decide +kernel
theorem dX11_clientAt_73 : decode cX11_clientAt 73 = .ok (.aload_n 0, 1) := by decide +kernel
theorem dX11_clientAt_74 : decode cX11_clientAt 74 = .ok (.iload_n 1, 1) := by decide +kernel
theorem dX11_clientAt_75 : decode cX11_clientAt 75 = .ok (.iconst 4, 1) := by decide +kernel
theorem dX11_clientAt_76 : decode cX11_clientAt 76 = .ok (.invokevirtual 90, 3) := by decide +kernel
theorem dX11_clientAt_79 : decode cX11_clientAt 79 = .ok (.ireturn, 1) := by decide +kernel
theorem dX11_clientAt_80 : decode cX11_clientAt 80 = .ok (.aload_n 0, 1) := by decide +kernel
theorem dX11_clientAt_81 : decode cX11_clientAt 81 = .ok (.iload_n 1, 1) := by decide +kernel
theorem dX11_clientAt_82 : decode cX11_clientAt 82 = .ok (.iconst 3, 1) := by decide +kernel
theorem dX11_clientAt_83 : decode cX11_clientAt 83 = .ok (.invokevirtual 90, 3) := by decide +kernel
theorem dX11_clientAt_86 : decode cX11_clientAt 86 = .ok (.ireturn, 1) := by decide +kernel
theorem dX11_clientAt_87 : decode cX11_clientAt 87 = .ok (.iconst 0, 1) := by decide +kernel
theorem dX11_clientAt_88 : decode cX11_clientAt 88 = .ok (.istore 4, 2) := by decide +kernel
theorem dX11_clientAt_90 : decode cX11_clientAt 90 = .ok (.iload 4, 2) := by decide +kernel
theorem dX11_clientAt_92 : decode cX11_clientAt 92 = .ok (.aload_n 0, 1) := by decide +kernel
theorem dX11_clientAt_93 : decode cX11_clientAt 93 = .ok (.getfield 7, 3) := by decide +kernel
theorem dX11_clientAt_96 : decode cX11_clientAt 96 = .ok (.iconst 2, 1) := by decide +kernel
theorem dX11_clientAt_97 : decode cX11_clientAt 97 = .ok (.iaload, 1) := by decide +kernel
theorem dX11_clientAt_98 : decode cX11_clientAt 98 = .ok (.if_icmp .ge 31, 3) := by decide +kernel
theorem dX11_clientAt_101 : decode cX11_clientAt 101 = .ok (.iload_n 3, 1) := by decide +kernel
theorem dX11_clientAt_102 : decode cX11_clientAt 102 = .ok (.aload_n 0, 1) := by decide +kernel
theorem dX11_clientAt_103 : decode cX11_clientAt 103 = .ok (.iload 4, 2) := by decide +kernel
theorem dX11_clientAt_105 : decode cX11_clientAt 105 = .ok (.iconst 0, 1) := by decide +kernel
theorem dX11_clientAt_106 : decode cX11_clientAt 106 = .ok (.invokevirtual 87, 3) := by decide +kernel
theorem dX11_clientAt_109 : decode cX11_clientAt 109 = .ok (.iload_n 1, 1) := by decide +kernel
theorem dX11_clientAt_110 : decode cX11_clientAt 110 = .ok (.if_icmp .ne 10, 3) := by decide +kernel
theorem dX11_clientAt_113 : decode cX11_clientAt 113 = .ok (.iconst 1, 1) := by decide +kernel
theorem dX11_clientAt_114 : decode cX11_clientAt 114 = .ok (.iload 4, 2) := by decide +kernel
theorem dX11_clientAt_116 : decode cX11_clientAt 116 = .ok (.ishl, 1) := by decide +kernel
theorem dX11_clientAt_117 : decode cX11_clientAt 117 = .ok (.goto 4, 3) := by decide +kernel
theorem dX11_clientAt_120 : decode cX11_clientAt 120 = .ok (.iconst 0, 1) := by decide +kernel
theorem dX11_clientAt_121 : decode cX11_clientAt 121 = .ok (.ior, 1) := by decide +kernel
theorem dX11_clientAt_122 : decode cX11_clientAt 122 = .ok (.istore_n 3, 1) := by decide +kernel
theorem dX11_clientAt_123 : decode cX11_clientAt 123 = .ok (.iinc 4 1, 3) := by decide +kernel
theorem dX11_clientAt_126 : decode cX11_clientAt 126 = .ok (.goto (-36), 3) := by decide +kernel
theorem dX11_clientAt_129 : decode cX11_clientAt 129 = .ok (.iload_n 3, 1) := by decide +kernel
theorem dX11_clientAt_130 : decode cX11_clientAt 130 = .ok (.ireturn, 1) := by decide +kernel
theorem dX11_clientAt_131 : decode cX11_clientAt 131 = .ok (.ldc 179, 2) := by decide +kernel
theorem dX11_clientAt_133 : decode cX11_clientAt 133 = .ok (.ireturn, 1) := by decide +kernel
theorem dX11_log_0 : decode cX11_log 0 = .ok (.aload_n 0, 1) := by decide +kernel
theorem dX11_log_1 : decode cX11_log 1 = .ok (.iload_n 1, 1) := by decide +kernel
theorem dX11_log_2 : decode cX11_log 2 = .ok (.invokevirtual 163, 3) := by decide +kernel
theorem dX11_log_5 : decode cX11_log 5 = .ok (.ifCond .ne 6, 3) := by decide +kernel
theorem dX11_log_8 : decode cX11_log 8 = .ok (.ldc 180, 2) := by decide +kernel
theorem dX11_log_10 : decode cX11_log 10 = .ok (.ireturn, 1) := by decide +kernel
theorem dX11_log_11 : decode cX11_log 11 = .ok (.iload_n 2, 1) := by decide +kernel
theorem dX11_log_12 : decode cX11_log 12 = .ok (.iconst 0, 1) := by decide +kernel
theorem dX11_log_13 : decode cX11_log 13 = .ok (.bipush 11, 2) := by decide +kernel
theorem dX11_log_15 : decode cX11_log 15 = .ok (.invokestatic 41, 3) := by decide +kernel
theorem dX11_log_18 : decode cX11_log 18 = .ok (.ifCond .ne 8, 3) := by decide +kernel
theorem dX11_log_21 : decode cX11_log 21 = .ok (.ldc 179, 2) := by decide +kernel
theorem dX11_log_23 : decode cX11_log 23 = .ok (.goto 25, 3) := by decide +kernel
theorem dX11_log_26 : decode cX11_log 26 = .ok (.iload_n 2, 1) := by decide +kernel
theorem dX11_log_27 : decode cX11_log 27 = .ok (.aload_n 0, 1) := by decide +kernel
theorem dX11_log_28 : decode cX11_log 28 = .ok (.iload_n 1, 1) := by decide +kernel
theorem dX11_log_29 : decode cX11_log 29 = .ok (.iconst 2, 1) := by decide +kernel
theorem dX11_log_30 : decode cX11_log 30 = .ok (.invokevirtual 90, 3) := by decide +kernel
theorem dX11_log_33 : decode cX11_log 33 = .ok (.if_icmp .ge 14, 3) := by decide +kernel
theorem dX11_log_36 : decode cX11_log 36 = .ok (.aload_n 0, 1) := by decide +kernel
theorem dX11_log_37 : decode cX11_log 37 = .ok (.iload_n 1, 1) := by decide +kernel
theorem dX11_log_38 : decode cX11_log 38 = .ok (.iconst 5, 1) := by decide +kernel
theorem dX11_log_39 : decode cX11_log 39 = .ok (.iload_n 2, 1) := by decide +kernel
theorem dX11_log_40 : decode cX11_log 40 = .ok (.iadd, 1) := by decide +kernel
theorem dX11_log_41 : decode cX11_log 41 = .ok (.invokevirtual 90, 3) := by decide +kernel
theorem dX11_log_44 : decode cX11_log 44 = .ok (.goto 4, 3) := by decide +kernel
theorem dX11_log_47 : decode cX11_log 47 = .ok (.iconst (-1), 1) := by decide +kernel
theorem dX11_log_48 : decode cX11_log 48 = .ok (.ireturn, 1) := by decide +kernel
theorem dX11_takesWish_0 : decode cX11_takesWish 0 = .ok (.iconst 0, 1) := by decide +kernel
theorem dX11_takesWish_1 : decode cX11_takesWish 1 = .ok (.istore_n 3, 1) := by decide +kernel
theorem dX11_takesWish_2 : decode cX11_takesWish 2 = .ok (.iload_n 3, 1) := by decide +kernel
theorem dX11_takesWish_3 : decode cX11_takesWish 3 = .ok (.bipush 6, 2) := by decide +kernel
theorem dX11_takesWish_5 : decode cX11_takesWish 5 = .ok (.if_icmp .ge 28, 3) := by decide +kernel
theorem dX11_takesWish_8 : decode cX11_takesWish 8 = .ok (.aload_n 0, 1) := by decide +kernel
theorem dX11_takesWish_9 : decode cX11_takesWish 9 = .ok (.getfield 35, 3) := by decide +kernel
theorem dX11_takesWish_12 : decode cX11_takesWish 12 = .ok (.bipush 6, 2) := by decide +kernel
theorem dX11_takesWish_14 : decode cX11_takesWish 14 = .ok (.iload_n 1, 1) := by decide +kernel
theorem dX11_takesWish_15 : decode cX11_takesWish 15 = .ok (.imul, 1) := by decide +kernel
theorem dX11_takesWish_16 : decode cX11_takesWish 16 = .ok (.iload_n 3, 1) := by decide +kernel
theorem dX11_takesWish_17 : decode cX11_takesWish 17 = .ok (.iadd, 1) := by decide +kernel
theorem dX11_takesWish_18 : decode cX11_takesWish 18 = .ok (.aload_n 0, 1) := by decide +kernel
theorem dX11_takesWish_19 : decode cX11_takesWish 19 = .ok (.iload_n 2, 1) := by decide +kernel
theorem dX11_takesWish_20 : decode cX11_takesWish 20 = .ok (.iconst 1, 1) := by decide +kernel
theorem dX11_takesWish_21 : decode cX11_takesWish 21 = .ok (.iload_n 3, 1) := by decide +kernel
theorem dX11_takesWish_22 : decode cX11_takesWish 22 = .ok (.iadd, 1) := by decide +kernel
theorem dX11_takesWish_23 : decode cX11_takesWish 23 = .ok (.invokevirtual 87, 3) := by decide +kernel
theorem dX11_takesWish_26 : decode cX11_takesWish 26 = .ok (.iastore, 1) := by decide +kernel
theorem dX11_takesWish_27 : decode cX11_takesWish 27 = .ok (.iinc 3 1, 3) := by decide +kernel
theorem dX11_takesWish_30 : decode cX11_takesWish 30 = .ok (.goto (-28), 3) := by decide +kernel
theorem dX11_takesWish_33 : decode cX11_takesWish 33 = .ok (.return_, 1) := by decide +kernel
theorem dX11_covered_0 : decode cX11_covered 0 = .ok (.iconst 0, 1) := by decide +kernel
theorem dX11_covered_1 : decode cX11_covered 1 = .ok (.istore_n 2, 1) := by decide +kernel
theorem dX11_covered_2 : decode cX11_covered 2 = .ok (.aload_n 0, 1) := by decide +kernel
theorem dX11_covered_3 : decode cX11_covered 3 = .ok (.iconst 0, 1) := by decide +kernel
theorem dX11_covered_4 : decode cX11_covered 4 = .ok (.iload_n 1, 1) := by decide +kernel
theorem dX11_covered_5 : decode cX11_covered 5 = .ok (.invokevirtual 181, 3) := by decide +kernel
theorem dX11_covered_8 : decode cX11_covered 8 = .ok (.iconst 0, 1) := by decide +kernel
theorem dX11_covered_9 : decode cX11_covered 9 = .ok (.istore_n 3, 1) := by decide +kernel
theorem dX11_covered_10 : decode cX11_covered 10 = .ok (.iload_n 3, 1) := by decide +kernel
theorem dX11_covered_11 : decode cX11_covered 11 = .ok (.aload_n 0, 1) := by decide +kernel
theorem dX11_covered_12 : decode cX11_covered 12 = .ok (.getfield 7, 3) := by decide +kernel
theorem dX11_covered_15 : decode cX11_covered 15 = .ok (.iconst 2, 1) := by decide +kernel
theorem dX11_covered_16 : decode cX11_covered 16 = .ok (.iaload, 1) := by decide +kernel
theorem dX11_covered_17 : decode cX11_covered 17 = .ok (.if_icmp .ge 39, 3) := by decide +kernel
theorem dX11_covered_20 : decode cX11_covered 20 = .ok (.aload_n 0, 1) := by decide +kernel
theorem dX11_covered_21 : decode cX11_covered 21 = .ok (.iconst 1, 1) := by decide +kernel
theorem dX11_covered_22 : decode cX11_covered 22 = .ok (.iload_n 3, 1) := by decide +kernel
theorem dX11_covered_23 : decode cX11_covered 23 = .ok (.invokevirtual 181, 3) := by decide +kernel
theorem dX11_covered_26 : decode cX11_covered 26 = .ok (.iload_n 2, 1) := by decide +kernel
theorem dX11_covered_27 : decode cX11_covered 27 = .ok (.iload_n 3, 1) := by decide +kernel
theorem dX11_covered_28 : decode cX11_covered 28 = .ok (.iload_n 1, 1) := by decide +kernel
theorem dX11_covered_29 : decode cX11_covered 29 = .ok (.if_icmp .eq 18, 3) := by decide +kernel
theorem dX11_covered_32 : decode cX11_covered 32 = .ok (.aload_n 0, 1) := by decide +kernel
theorem dX11_covered_33 : decode cX11_covered 33 = .ok (.iconst 0, 1) := by decide +kernel
theorem dX11_covered_34 : decode cX11_covered 34 = .ok (.iconst 1, 1) := by decide +kernel
theorem dX11_covered_35 : decode cX11_covered 35 = .ok (.invokevirtual 67, 3) := by decide +kernel
theorem dX11_covered_38 : decode cX11_covered 38 = .ok (.ifCond .eq 9, 3) := by decide +kernel
theorem dX11_covered_41 : decode cX11_covered 41 = .ok (.iconst 1, 1) := by decide +kernel
theorem dX11_covered_42 : decode cX11_covered 42 = .ok (.iload_n 3, 1) := by decide +kernel
theorem dX11_covered_43 : decode cX11_covered 43 = .ok (.ishl, 1) := by decide +kernel
theorem dX11_covered_44 : decode cX11_covered 44 = .ok (.goto 4, 3) := by decide +kernel
theorem dX11_covered_47 : decode cX11_covered 47 = .ok (.iconst 0, 1) := by decide +kernel
theorem dX11_covered_48 : decode cX11_covered 48 = .ok (.ior, 1) := by decide +kernel
theorem dX11_covered_49 : decode cX11_covered 49 = .ok (.istore_n 2, 1) := by decide +kernel
theorem dX11_covered_50 : decode cX11_covered 50 = .ok (.iinc 3 1, 3) := by decide +kernel
theorem dX11_covered_53 : decode cX11_covered 53 = .ok (.goto (-43), 3) := by decide +kernel
theorem dX11_covered_56 : decode cX11_covered 56 = .ok (.iload_n 2, 1) := by decide +kernel
theorem dX11_covered_57 : decode cX11_covered 57 = .ok (.ireturn, 1) := by decide +kernel
theorem dX11_wishAt_0 : decode cX11_wishAt 0 = .ok (.aload_n 0, 1) := by decide +kernel
theorem dX11_wishAt_1 : decode cX11_wishAt 1 = .ok (.iload_n 1, 1) := by decide +kernel
theorem dX11_wishAt_2 : decode cX11_wishAt 2 = .ok (.invokevirtual 184, 3) := by decide +kernel
theorem dX11_wishAt_5 : decode cX11_wishAt 5 = .ok (.ifCond .ne 6, 3) := by decide +kernel
theorem dX11_wishAt_8 : decode cX11_wishAt 8 = .ok (.ldc 180, 2) := by decide +kernel
theorem dX11_wishAt_10 : decode cX11_wishAt 10 = .ok (.ireturn, 1) := by decide +kernel
theorem dX11_wishAt_11 : decode cX11_wishAt 11 = .ok (.iload_n 2, 1) := by decide +kernel
theorem dX11_wishAt_12 : decode cX11_wishAt 12 = .ok (.iconst 0, 1) := by decide +kernel
theorem dX11_wishAt_13 : decode cX11_wishAt 13 = .ok (.bipush 8, 2) := by decide +kernel
theorem dX11_wishAt_15 : decode cX11_wishAt 15 = .ok (.invokestatic 41, 3) := by decide +kernel
theorem dX11_wishAt_18 : decode cX11_wishAt 18 = .ok (.ifCond .ne 6, 3) := by decide +kernel
theorem dX11_wishAt_21 : decode cX11_wishAt 21 = .ok (.ldc 179, 2) := by decide +kernel
theorem dX11_wishAt_23 : decode cX11_wishAt 23 = .ok (.ireturn, 1) := by decide +kernel
theorem dX11_wishAt_24 : decode cX11_wishAt 24 = .ok (.aload_n 0, 1) := by decide +kernel
theorem dX11_wishAt_25 : decode cX11_wishAt 25 = .ok (.iconst 0, 1) := by decide +kernel
theorem dX11_wishAt_26 : decode cX11_wishAt 26 = .ok (.iload_n 1, 1) := by decide +kernel
theorem dX11_wishAt_27 : decode cX11_wishAt 27 = .ok (.invokevirtual 181, 3) := by decide +kernel
theorem dX11_wishAt_30 : decode cX11_wishAt 30 = .ok (.iload_n 2, 1) := by decide +kernel
theorem dX11_wishAt_31 : decode cX11_wishAt 31 = .ok (.bipush 7, 2) := by decide +kernel
theorem dX11_wishAt_33 : decode cX11_wishAt 33 = .ok (.if_icmp .ge 12, 3) := by decide +kernel
theorem dX11_wishAt_36 : decode cX11_wishAt 36 = .ok (.aload_n 0, 1) := by decide +kernel
theorem dX11_wishAt_37 : decode cX11_wishAt 37 = .ok (.iload_n 1, 1) := by decide +kernel
theorem dX11_wishAt_38 : decode cX11_wishAt 38 = .ok (.iload_n 2, 1) := by decide +kernel
theorem dX11_wishAt_39 : decode cX11_wishAt 39 = .ok (.invokevirtual 87, 3) := by decide +kernel
theorem dX11_wishAt_42 : decode cX11_wishAt 42 = .ok (.goto 22, 3) := by decide +kernel
theorem dX11_wishAt_45 : decode cX11_wishAt 45 = .ok (.iload_n 2, 1) := by decide +kernel
theorem dX11_wishAt_46 : decode cX11_wishAt 46 = .ok (.bipush 7, 2) := by decide +kernel
theorem dX11_wishAt_48 : decode cX11_wishAt 48 = .ok (.if_icmp .ne 11, 3) := by decide +kernel
theorem dX11_wishAt_51 : decode cX11_wishAt 51 = .ok (.aload_n 0, 1) := by decide +kernel
theorem dX11_wishAt_52 : decode cX11_wishAt 52 = .ok (.iconst 0, 1) := by decide +kernel
theorem dX11_wishAt_53 : decode cX11_wishAt 53 = .ok (.invokevirtual 74, 3) := by decide +kernel
theorem dX11_wishAt_56 : decode cX11_wishAt 56 = .ok (.goto 8, 3) := by decide +kernel
theorem dX11_wishAt_59 : decode cX11_wishAt 59 = .ok (.aload_n 0, 1) := by decide +kernel
theorem dX11_wishAt_60 : decode cX11_wishAt 60 = .ok (.iload_n 1, 1) := by decide +kernel
theorem dX11_wishAt_61 : decode cX11_wishAt 61 = .ok (.invokevirtual 187, 3) := by decide +kernel
theorem dX11_wishAt_64 : decode cX11_wishAt 64 = .ok (.ireturn, 1) := by decide +kernel
theorem dX11_toldOn_0 : decode cX11_toldOn 0 = .ok (.aload_n 0, 1) := by decide +kernel
theorem dX11_toldOn_1 : decode cX11_toldOn 1 = .ok (.iload_n 1, 1) := by decide +kernel
theorem dX11_toldOn_2 : decode cX11_toldOn 2 = .ok (.iload_n 2, 1) := by decide +kernel
theorem dX11_toldOn_3 : decode cX11_toldOn 3 = .ok (.invokevirtual 97, 3) := by decide +kernel
theorem dX11_toldOn_6 : decode cX11_toldOn 6 = .ok (.ifCond .ne 6, 3) := by decide +kernel
theorem dX11_toldOn_9 : decode cX11_toldOn 9 = .ok (.ldc 180, 2) := by decide +kernel
theorem dX11_toldOn_11 : decode cX11_toldOn 11 = .ok (.ireturn, 1) := by decide +kernel
theorem dX11_toldOn_12 : decode cX11_toldOn 12 = .ok (.aload_n 0, 1) := by decide +kernel
theorem dX11_toldOn_13 : decode cX11_toldOn 13 = .ok (.invokevirtual 120, 3) := by decide +kernel
theorem dX11_toldOn_16 : decode cX11_toldOn 16 = .ok (.aload_n 0, 1) := by decide +kernel
theorem dX11_toldOn_17 : decode cX11_toldOn 17 = .ok (.getfield 29, 3) := by decide +kernel
theorem dX11_toldOn_20 : decode cX11_toldOn 20 = .ok (.aload_n 0, 1) := by decide +kernel
theorem dX11_toldOn_21 : decode cX11_toldOn 21 = .ok (.iload_n 1, 1) := by decide +kernel
theorem dX11_toldOn_22 : decode cX11_toldOn 22 = .ok (.iload_n 2, 1) := by decide +kernel
theorem dX11_toldOn_23 : decode cX11_toldOn 23 = .ok (.invokevirtual 100, 3) := by decide +kernel
theorem dX11_toldOn_26 : decode cX11_toldOn 26 = .ok (.iaload, 1) := by decide +kernel
theorem dX11_toldOn_27 : decode cX11_toldOn 27 = .ok (.ireturn, 1) := by decide +kernel
theorem dX11_isWishBox_0 : decode cX11_isWishBox 0 = .ok (.iconst 0, 1) := by decide +kernel
theorem dX11_isWishBox_1 : decode cX11_isWishBox 1 = .ok (.istore_n 1, 1) := by decide +kernel
theorem dX11_isWishBox_2 : decode cX11_isWishBox 2 = .ok (.iconst 0, 1) := by decide +kernel
theorem dX11_isWishBox_3 : decode cX11_isWishBox 3 = .ok (.istore_n 2, 1) := by decide +kernel
theorem dX11_isWishBox_4 : decode cX11_isWishBox 4 = .ok (.iload_n 2, 1) := by decide +kernel
theorem dX11_isWishBox_5 : decode cX11_isWishBox 5 = .ok (.aload_n 0, 1) := by decide +kernel
theorem dX11_isWishBox_6 : decode cX11_isWishBox 6 = .ok (.getfield 7, 3) := by decide +kernel
theorem dX11_isWishBox_9 : decode cX11_isWishBox 9 = .ok (.iconst 2, 1) := by decide +kernel
theorem dX11_isWishBox_10 : decode cX11_isWishBox 10 = .ok (.iaload, 1) := by decide +kernel
theorem dX11_isWishBox_11 : decode cX11_isWishBox 11 = .ok (.if_icmp .ge 34, 3) := by decide +kernel
theorem dX11_isWishBox_14 : decode cX11_isWishBox 14 = .ok (.aload_n 0, 1) := by decide +kernel
theorem dX11_isWishBox_15 : decode cX11_isWishBox 15 = .ok (.iconst 1, 1) := by decide +kernel
theorem dX11_isWishBox_16 : decode cX11_isWishBox 16 = .ok (.iload_n 2, 1) := by decide +kernel
theorem dX11_isWishBox_17 : decode cX11_isWishBox 17 = .ok (.invokevirtual 181, 3) := by decide +kernel
theorem dX11_isWishBox_20 : decode cX11_isWishBox 20 = .ok (.iload_n 1, 1) := by decide +kernel
theorem dX11_isWishBox_21 : decode cX11_isWishBox 21 = .ok (.ifCond .ne 12, 3) := by decide +kernel
theorem dX11_isWishBox_24 : decode cX11_isWishBox 24 = .ok (.aload_n 0, 1) := by decide +kernel
theorem dX11_isWishBox_25 : decode cX11_isWishBox 25 = .ok (.iconst 0, 1) := by decide +kernel
theorem dX11_isWishBox_26 : decode cX11_isWishBox 26 = .ok (.iconst 1, 1) := by decide +kernel
theorem dX11_isWishBox_27 : decode cX11_isWishBox 27 = .ok (.invokevirtual 60, 3) := by decide +kernel
theorem dX11_isWishBox_30 : decode cX11_isWishBox 30 = .ok (.ifCond .ne 7, 3) := by decide +kernel
theorem dX11_isWishBox_33 : decode cX11_isWishBox 33 = .ok (.iconst 1, 1) := by decide +kernel
theorem dX11_isWishBox_34 : decode cX11_isWishBox 34 = .ok (.goto 4, 3) := by decide +kernel
theorem dX11_isWishBox_37 : decode cX11_isWishBox 37 = .ok (.iconst 0, 1) := by decide +kernel
theorem dX11_isWishBox_38 : decode cX11_isWishBox 38 = .ok (.istore_n 1, 1) := by decide +kernel
theorem dX11_isWishBox_39 : decode cX11_isWishBox 39 = .ok (.iinc 2 1, 3) := by decide +kernel
theorem dX11_isWishBox_42 : decode cX11_isWishBox 42 = .ok (.goto (-38), 3) := by decide +kernel
theorem dX11_isWishBox_45 : decode cX11_isWishBox 45 = .ok (.iload_n 1, 1) := by decide +kernel
theorem dX11_isWishBox_46 : decode cX11_isWishBox 46 = .ok (.ireturn, 1) := by decide +kernel
theorem dX11_box_0 : decode cX11_box 0 = .ok (.aload_n 0, 1) := by decide +kernel
theorem dX11_box_1 : decode cX11_box 1 = .ok (.iload_n 1, 1) := by decide +kernel
theorem dX11_box_2 : decode cX11_box 2 = .ok (.iload_n 2, 1) := by decide +kernel
theorem dX11_box_3 : decode cX11_box 3 = .ok (.invokevirtual 97, 3) := by decide +kernel
theorem dX11_box_6 : decode cX11_box 6 = .ok (.ifCond .ne 6, 3) := by decide +kernel
theorem dX11_box_9 : decode cX11_box 9 = .ok (.ldc 180, 2) := by decide +kernel
theorem dX11_box_11 : decode cX11_box 11 = .ok (.ireturn, 1) := by decide +kernel
theorem dX11_box_12 : decode cX11_box 12 = .ok (.aload_n 0, 1) := by decide +kernel
theorem dX11_box_13 : decode cX11_box 13 = .ok (.invokevirtual 120, 3) := by decide +kernel
theorem dX11_box_16 : decode cX11_box 16 = .ok (.aload_n 0, 1) := by decide +kernel
theorem dX11_box_17 : decode cX11_box 17 = .ok (.iload_n 1, 1) := by decide +kernel
theorem dX11_box_18 : decode cX11_box 18 = .ok (.iload_n 2, 1) := by decide +kernel
theorem dX11_box_19 : decode cX11_box 19 = .ok (.invokevirtual 100, 3) := by decide +kernel
theorem dX11_box_22 : decode cX11_box 22 = .ok (.istore 5, 2) := by decide +kernel
theorem dX11_box_24 : decode cX11_box 24 = .ok (.iload_n 3, 1) := by decide +kernel
theorem dX11_box_25 : decode cX11_box 25 = .ok (.iconst 0, 1) := by decide +kernel
theorem dX11_box_26 : decode cX11_box 26 = .ok (.aload_n 0, 1) := by decide +kernel
theorem dX11_box_27 : decode cX11_box 27 = .ok (.getfield 29, 3) := by decide +kernel
theorem dX11_box_30 : decode cX11_box 30 = .ok (.iload 5, 2) := by decide +kernel
theorem dX11_box_32 : decode cX11_box 32 = .ok (.iaload, 1) := by decide +kernel
theorem dX11_box_33 : decode cX11_box 33 = .ok (.iconst 1, 1) := by decide +kernel
theorem dX11_box_34 : decode cX11_box 34 = .ok (.isub, 1) := by decide +kernel
theorem dX11_box_35 : decode cX11_box 35 = .ok (.invokestatic 41, 3) := by decide +kernel
theorem dX11_box_38 : decode cX11_box 38 = .ok (.ifCond .ne 6, 3) := by decide +kernel
theorem dX11_box_41 : decode cX11_box 41 = .ok (.ldc 180, 2) := by decide +kernel
theorem dX11_box_43 : decode cX11_box 43 = .ok (.ireturn, 1) := by decide +kernel
theorem dX11_box_44 : decode cX11_box 44 = .ok (.iload 4, 2) := by decide +kernel
theorem dX11_box_46 : decode cX11_box 46 = .ok (.iconst 0, 1) := by decide +kernel
theorem dX11_box_47 : decode cX11_box 47 = .ok (.bipush 7, 2) := by decide +kernel
theorem dX11_box_49 : decode cX11_box 49 = .ok (.invokestatic 41, 3) := by decide +kernel
theorem dX11_box_52 : decode cX11_box 52 = .ok (.ifCond .ne 6, 3) := by decide +kernel
theorem dX11_box_55 : decode cX11_box 55 = .ok (.ldc 179, 2) := by decide +kernel
theorem dX11_box_57 : decode cX11_box 57 = .ok (.ireturn, 1) := by decide +kernel
theorem dX11_box_58 : decode cX11_box 58 = .ok (.iconst 0, 1) := by decide +kernel
theorem dX11_box_59 : decode cX11_box 59 = .ok (.istore 6, 2) := by decide +kernel
theorem dX11_box_61 : decode cX11_box 61 = .ok (.iload 6, 2) := by decide +kernel
theorem dX11_box_63 : decode cX11_box 63 = .ok (.bipush 6, 2) := by decide +kernel
theorem dX11_box_65 : decode cX11_box 65 = .ok (.if_icmp .ge 34, 3) := by decide +kernel
theorem dX11_box_68 : decode cX11_box 68 = .ok (.aload_n 0, 1) := by decide +kernel
theorem dX11_box_69 : decode cX11_box 69 = .ok (.getfield 35, 3) := by decide +kernel
theorem dX11_box_72 : decode cX11_box 72 = .ok (.iload 6, 2) := by decide +kernel
theorem dX11_box_74 : decode cX11_box 74 = .ok (.aload_n 0, 1) := by decide +kernel
theorem dX11_box_75 : decode cX11_box 75 = .ok (.getfield 32, 3) := by decide +kernel
theorem dX11_box_78 : decode cX11_box 78 = .ok (.bipush 54, 2) := by decide +kernel
theorem dX11_box_80 : decode cX11_box 80 = .ok (.iload 5, 2) := by decide +kernel
theorem dX11_box_82 : decode cX11_box 82 = .ok (.imul, 1) := by decide +kernel
theorem dX11_box_83 : decode cX11_box 83 = .ok (.bipush 6, 2) := by decide +kernel
theorem dX11_box_85 : decode cX11_box 85 = .ok (.iload_n 3, 1) := by decide +kernel
theorem dX11_box_86 : decode cX11_box 86 = .ok (.imul, 1) := by decide +kernel
theorem dX11_box_87 : decode cX11_box 87 = .ok (.iadd, 1) := by decide +kernel
theorem dX11_box_88 : decode cX11_box 88 = .ok (.iload 6, 2) := by decide +kernel
theorem dX11_box_90 : decode cX11_box 90 = .ok (.iadd, 1) := by decide +kernel
theorem dX11_box_91 : decode cX11_box 91 = .ok (.iaload, 1) := by decide +kernel
theorem dX11_box_92 : decode cX11_box 92 = .ok (.iastore, 1) := by decide +kernel
theorem dX11_box_93 : decode cX11_box 93 = .ok (.iinc 6 1, 3) := by decide +kernel
theorem dX11_box_96 : decode cX11_box 96 = .ok (.goto (-35), 3) := by decide +kernel
theorem dX11_box_99 : decode cX11_box 99 = .ok (.iload 4, 2) := by decide +kernel
theorem dX11_box_101 : decode cX11_box 101 = .ok (.bipush 6, 2) := by decide +kernel
theorem dX11_box_103 : decode cX11_box 103 = .ok (.if_icmp .ge 13, 3) := by decide +kernel
theorem dX11_box_106 : decode cX11_box 106 = .ok (.aload_n 0, 1) := by decide +kernel
theorem dX11_box_107 : decode cX11_box 107 = .ok (.getfield 35, 3) := by decide +kernel
theorem dX11_box_110 : decode cX11_box 110 = .ok (.iload 4, 2) := by decide +kernel
theorem dX11_box_112 : decode cX11_box 112 = .ok (.iaload, 1) := by decide +kernel
theorem dX11_box_113 : decode cX11_box 113 = .ok (.goto 30, 3) := by decide +kernel
theorem dX11_box_116 : decode cX11_box 116 = .ok (.iload 4, 2) := by decide +kernel
theorem dX11_box_118 : decode cX11_box 118 = .ok (.bipush 6, 2) := by decide +kernel
theorem dX11_box_120 : decode cX11_box 120 = .ok (.if_icmp .ne 11, 3) := by decide +kernel
theorem dX11_box_123 : decode cX11_box 123 = .ok (.aload_n 0, 1) := by decide +kernel
theorem dX11_box_124 : decode cX11_box 124 = .ok (.iconst 0, 1) := by decide +kernel
theorem dX11_box_125 : decode cX11_box 125 = .ok (.invokevirtual 74, 3) := by decide +kernel
theorem dX11_box_128 : decode cX11_box 128 = .ok (.goto 15, 3) := by decide +kernel
theorem dX11_box_131 : decode cX11_box 131 = .ok (.aload_n 0, 1) := by decide +kernel
theorem dX11_box_132 : decode cX11_box 132 = .ok (.invokevirtual 190, 3) := by decide +kernel
theorem dX11_box_135 : decode cX11_box 135 = .ok (.ifCond .eq 7, 3) := by decide +kernel
theorem dX11_box_138 : decode cX11_box 138 = .ok (.iconst 1, 1) := by decide +kernel
theorem dX11_box_139 : decode cX11_box 139 = .ok (.goto 4, 3) := by decide +kernel
theorem dX11_box_142 : decode cX11_box 142 = .ok (.iconst 0, 1) := by decide +kernel
theorem dX11_box_143 : decode cX11_box 143 = .ok (.ireturn, 1) := by decide +kernel
theorem dX11_would_0 : decode cX11_would 0 = .ok (.aload_n 0, 1) := by decide +kernel
theorem dX11_would_1 : decode cX11_would 1 = .ok (.iload_n 1, 1) := by decide +kernel
theorem dX11_would_2 : decode cX11_would 2 = .ok (.invokevirtual 45, 3) := by decide +kernel
theorem dX11_would_5 : decode cX11_would 5 = .ok (.ifCond .ne 6, 3) := by decide +kernel
theorem dX11_would_8 : decode cX11_would 8 = .ok (.ldc 180, 2) := by decide +kernel
theorem dX11_would_10 : decode cX11_would 10 = .ok (.ireturn, 1) := by decide +kernel
theorem dX11_would_11 : decode cX11_would 11 = .ok (.iload_n 2, 1) := by decide +kernel
theorem dX11_would_12 : decode cX11_would 12 = .ok (.iload_n 3, 1) := by decide +kernel
theorem dX11_would_13 : decode cX11_would 13 = .ok (.iload 4, 2) := by decide +kernel
theorem dX11_would_15 : decode cX11_would 15 = .ok (.invokestatic 194, 3) := by decide +kernel
theorem dX11_would_18 : decode cX11_would 18 = .ok (.ifCond .eq 13, 3) := by decide +kernel
theorem dX11_would_21 : decode cX11_would 21 = .ok (.iload 5, 2) := by decide +kernel
theorem dX11_would_23 : decode cX11_would 23 = .ok (.iconst 0, 1) := by decide +kernel
theorem dX11_would_24 : decode cX11_would 24 = .ok (.iconst 3, 1) := by decide +kernel
theorem dX11_would_25 : decode cX11_would 25 = .ok (.invokestatic 41, 3) := by decide +kernel
theorem dX11_would_28 : decode cX11_would 28 = .ok (.ifCond .ne 6, 3) := by decide +kernel
theorem dX11_would_31 : decode cX11_would 31 = .ok (.ldc 179, 2) := by decide +kernel
theorem dX11_would_33 : decode cX11_would 33 = .ok (.ireturn, 1) := by decide +kernel
theorem dX11_would_34 : decode cX11_would 34 = .ok (.aload_n 0, 1) := by decide +kernel
theorem dX11_would_35 : decode cX11_would 35 = .ok (.iload_n 1, 1) := by decide +kernel
theorem dX11_would_36 : decode cX11_would 36 = .ok (.iload_n 2, 1) := by decide +kernel
theorem dX11_would_37 : decode cX11_would 37 = .ok (.iload_n 3, 1) := by decide +kernel
theorem dX11_would_38 : decode cX11_would 38 = .ok (.iload 4, 2) := by decide +kernel
theorem dX11_would_40 : decode cX11_would 40 = .ok (.invokevirtual 147, 3) := by decide +kernel
theorem dX11_would_43 : decode cX11_would 43 = .ok (.iload 5, 2) := by decide +kernel
theorem dX11_would_45 : decode cX11_would 45 = .ok (.ifCond .ne 10, 3) := by decide +kernel
theorem dX11_would_48 : decode cX11_would 48 = .ok (.aload_n 0, 1) := by decide +kernel
theorem dX11_would_49 : decode cX11_would 49 = .ok (.getfield 123, 3) := by decide +kernel
theorem dX11_would_52 : decode cX11_would 52 = .ok (.goto 33, 3) := by decide +kernel
theorem dX11_would_55 : decode cX11_would 55 = .ok (.iload 5, 2) := by decide +kernel
theorem dX11_would_57 : decode cX11_would 57 = .ok (.iconst 1, 1) := by decide +kernel
theorem dX11_would_58 : decode cX11_would 58 = .ok (.if_icmp .ne 10, 3) := by decide +kernel
theorem dX11_would_61 : decode cX11_would 61 = .ok (.aload_n 0, 1) := by decide +kernel
theorem dX11_would_62 : decode cX11_would 62 = .ok (.getfield 133, 3) := by decide +kernel
theorem dX11_would_65 : decode cX11_would 65 = .ok (.goto 20, 3) := by decide +kernel
theorem dX11_would_68 : decode cX11_would 68 = .ok (.iload 5, 2) := by decide +kernel
theorem dX11_would_70 : decode cX11_would 70 = .ok (.iconst 2, 1) := by decide +kernel
theorem dX11_would_71 : decode cX11_would 71 = .ok (.if_icmp .ne 10, 3) := by decide +kernel
theorem dX11_would_74 : decode cX11_would 74 = .ok (.aload_n 0, 1) := by decide +kernel
theorem dX11_would_75 : decode cX11_would 75 = .ok (.getfield 140, 3) := by decide +kernel
theorem dX11_would_78 : decode cX11_would 78 = .ok (.goto 7, 3) := by decide +kernel
theorem dX11_would_81 : decode cX11_would 81 = .ok (.aload_n 0, 1) := by decide +kernel
theorem dX11_would_82 : decode cX11_would 82 = .ok (.getfield 126, 3) := by decide +kernel
theorem dX11_would_85 : decode cX11_would 85 = .ok (.ireturn, 1) := by decide +kernel
theorem dX11_deed_0 : decode cX11_deed 0 = .ok (.aload_n 0, 1) := by decide +kernel
theorem dX11_deed_1 : decode cX11_deed 1 = .ok (.getfield 173, 3) := by decide +kernel
theorem dX11_deed_4 : decode cX11_deed 4 = .ok (.bipush 16, 2) := by decide +kernel
theorem dX11_deed_6 : decode cX11_deed 6 = .ok (.if_icmp .ne 44, 3) := by decide +kernel
theorem dX11_deed_9 : decode cX11_deed 9 = .ok (.iconst 0, 1) := by decide +kernel
theorem dX11_deed_10 : decode cX11_deed 10 = .ok (.istore_n 1, 1) := by decide +kernel
theorem dX11_deed_11 : decode cX11_deed 11 = .ok (.iload_n 1, 1) := by decide +kernel
theorem dX11_deed_12 : decode cX11_deed 12 = .ok (.sipush 3840, 3) := by decide +kernel
theorem dX11_deed_15 : decode cX11_deed 15 = .ok (.if_icmp .ge 25, 3) := by decide +kernel
theorem dX11_deed_18 : decode cX11_deed 18 = .ok (.aload_n 0, 1) := by decide +kernel
theorem dX11_deed_19 : decode cX11_deed 19 = .ok (.getfield 13, 3) := by decide +kernel
theorem dX11_deed_22 : decode cX11_deed 22 = .ok (.iload_n 1, 1) := by decide +kernel
theorem dX11_deed_23 : decode cX11_deed 23 = .ok (.aload_n 0, 1) := by decide +kernel
theorem dX11_deed_24 : decode cX11_deed 24 = .ok (.getfield 13, 3) := by decide +kernel
theorem dX11_deed_27 : decode cX11_deed 27 = .ok (.iload_n 1, 1) := by decide +kernel
theorem dX11_deed_28 : decode cX11_deed 28 = .ok (.sipush 256, 3) := by decide +kernel
theorem dX11_deed_31 : decode cX11_deed 31 = .ok (.iadd, 1) := by decide +kernel
theorem dX11_deed_32 : decode cX11_deed 32 = .ok (.iaload, 1) := by decide +kernel
theorem dX11_deed_33 : decode cX11_deed 33 = .ok (.iastore, 1) := by decide +kernel
theorem dX11_deed_34 : decode cX11_deed 34 = .ok (.iinc 1 1, 3) := by decide +kernel
theorem dX11_deed_37 : decode cX11_deed 37 = .ok (.goto (-26), 3) := by decide +kernel
theorem dX11_deed_40 : decode cX11_deed 40 = .ok (.aload_n 0, 1) := by decide +kernel
theorem dX11_deed_41 : decode cX11_deed 41 = .ok (.dup, 1) := by decide +kernel
theorem dX11_deed_42 : decode cX11_deed 42 = .ok (.getfield 173, 3) := by decide +kernel
theorem dX11_deed_45 : decode cX11_deed 45 = .ok (.iconst 1, 1) := by decide +kernel
theorem dX11_deed_46 : decode cX11_deed 46 = .ok (.isub, 1) := by decide +kernel
theorem dX11_deed_47 : decode cX11_deed 47 = .ok (.putfield 173, 3) := by decide +kernel
theorem dX11_deed_50 : decode cX11_deed 50 = .ok (.iconst 0, 1) := by decide +kernel
theorem dX11_deed_51 : decode cX11_deed 51 = .ok (.istore_n 1, 1) := by decide +kernel
theorem dX11_deed_52 : decode cX11_deed 52 = .ok (.iload_n 1, 1) := by decide +kernel
theorem dX11_deed_53 : decode cX11_deed 53 = .ok (.sipush 256, 3) := by decide +kernel
theorem dX11_deed_56 : decode cX11_deed 56 = .ok (.if_icmp .ge 30, 3) := by decide +kernel
theorem dX11_deed_59 : decode cX11_deed 59 = .ok (.aload_n 0, 1) := by decide +kernel
theorem dX11_deed_60 : decode cX11_deed 60 = .ok (.getfield 13, 3) := by decide +kernel
theorem dX11_deed_63 : decode cX11_deed 63 = .ok (.sipush 256, 3) := by decide +kernel
theorem dX11_deed_66 : decode cX11_deed 66 = .ok (.aload_n 0, 1) := by decide +kernel
theorem dX11_deed_67 : decode cX11_deed 67 = .ok (.getfield 173, 3) := by decide +kernel
theorem dX11_deed_70 : decode cX11_deed 70 = .ok (.imul, 1) := by decide +kernel
theorem dX11_deed_71 : decode cX11_deed 71 = .ok (.iload_n 1, 1) := by decide +kernel
theorem dX11_deed_72 : decode cX11_deed 72 = .ok (.iadd, 1) := by decide +kernel
theorem dX11_deed_73 : decode cX11_deed 73 = .ok (.aload_n 0, 1) := by decide +kernel
theorem dX11_deed_74 : decode cX11_deed 74 = .ok (.getfield 7, 3) := by decide +kernel
theorem dX11_deed_77 : decode cX11_deed 77 = .ok (.iload_n 1, 1) := by decide +kernel
theorem dX11_deed_78 : decode cX11_deed 78 = .ok (.iaload, 1) := by decide +kernel
theorem dX11_deed_79 : decode cX11_deed 79 = .ok (.iastore, 1) := by decide +kernel
theorem dX11_deed_80 : decode cX11_deed 80 = .ok (.iinc 1 1, 3) := by decide +kernel
theorem dX11_deed_83 : decode cX11_deed 83 = .ok (.goto (-31), 3) := by decide +kernel
theorem dX11_deed_86 : decode cX11_deed 86 = .ok (.aload_n 0, 1) := by decide +kernel
theorem dX11_deed_87 : decode cX11_deed 87 = .ok (.dup, 1) := by decide +kernel
theorem dX11_deed_88 : decode cX11_deed 88 = .ok (.getfield 173, 3) := by decide +kernel
theorem dX11_deed_91 : decode cX11_deed 91 = .ok (.iconst 1, 1) := by decide +kernel
theorem dX11_deed_92 : decode cX11_deed 92 = .ok (.iadd, 1) := by decide +kernel
theorem dX11_deed_93 : decode cX11_deed 93 = .ok (.putfield 173, 3) := by decide +kernel
theorem dX11_deed_96 : decode cX11_deed 96 = .ok (.aload_n 0, 1) := by decide +kernel
theorem dX11_deed_97 : decode cX11_deed 97 = .ok (.iconst 0, 1) := by decide +kernel
theorem dX11_deed_98 : decode cX11_deed 98 = .ok (.putfield 109, 3) := by decide +kernel
theorem dX11_deed_101 : decode cX11_deed 101 = .ok (.return_, 1) := by decide +kernel
theorem dX11_broker_0 : decode cX11_broker 0 = .ok (.aload_n 0, 1) := by decide +kernel
theorem dX11_broker_1 : decode cX11_broker 1 = .ok (.iload_n 1, 1) := by decide +kernel
theorem dX11_broker_2 : decode cX11_broker 2 = .ok (.invokevirtual 45, 3) := by decide +kernel
theorem dX11_broker_5 : decode cX11_broker 5 = .ok (.ifCond .ne 6, 3) := by decide +kernel
theorem dX11_broker_8 : decode cX11_broker 8 = .ok (.ldc 180, 2) := by decide +kernel
theorem dX11_broker_10 : decode cX11_broker 10 = .ok (.ireturn, 1) := by decide +kernel
theorem dX11_broker_11 : decode cX11_broker 11 = .ok (.aload_n 0, 1) := by decide +kernel
theorem dX11_broker_12 : decode cX11_broker 12 = .ok (.getfield 7, 3) := by decide +kernel
theorem dX11_broker_15 : decode cX11_broker 15 = .ok (.iconst 0, 1) := by decide +kernel
theorem dX11_broker_16 : decode cX11_broker 16 = .ok (.iaload, 1) := by decide +kernel
theorem dX11_broker_17 : decode cX11_broker 17 = .ok (.bipush 7, 2) := by decide +kernel
theorem dX11_broker_19 : decode cX11_broker 19 = .ok (.if_icmp .ne 6, 3) := by decide +kernel
theorem dX11_broker_22 : decode cX11_broker 22 = .ok (.ldc 197, 2) := by decide +kernel
theorem dX11_broker_24 : decode cX11_broker 24 = .ok (.ireturn, 1) := by decide +kernel
theorem dX11_broker_25 : decode cX11_broker 25 = .ok (.aload_n 0, 1) := by decide +kernel
theorem dX11_broker_26 : decode cX11_broker 26 = .ok (.invokevirtual 198, 3) := by decide +kernel
theorem dX11_broker_29 : decode cX11_broker 29 = .ok (.aload_n 0, 1) := by decide +kernel
theorem dX11_broker_30 : decode cX11_broker 30 = .ok (.getfield 7, 3) := by decide +kernel
theorem dX11_broker_33 : decode cX11_broker 33 = .ok (.bipush 8, 2) := by decide +kernel
theorem dX11_broker_35 : decode cX11_broker 35 = .ok (.aload_n 0, 1) := by decide +kernel
theorem dX11_broker_36 : decode cX11_broker 36 = .ok (.getfield 7, 3) := by decide +kernel
theorem dX11_broker_39 : decode cX11_broker 39 = .ok (.iconst 0, 1) := by decide +kernel
theorem dX11_broker_40 : decode cX11_broker 40 = .ok (.iaload, 1) := by decide +kernel
theorem dX11_broker_41 : decode cX11_broker 41 = .ok (.iadd, 1) := by decide +kernel
theorem dX11_broker_42 : decode cX11_broker 42 = .ok (.iload_n 1, 1) := by decide +kernel
theorem dX11_broker_43 : decode cX11_broker 43 = .ok (.iastore, 1) := by decide +kernel
theorem dX11_broker_44 : decode cX11_broker 44 = .ok (.aload_n 0, 1) := by decide +kernel
theorem dX11_broker_45 : decode cX11_broker 45 = .ok (.getfield 7, 3) := by decide +kernel
theorem dX11_broker_48 : decode cX11_broker 48 = .ok (.iconst 0, 1) := by decide +kernel
theorem dX11_broker_49 : decode cX11_broker 49 = .ok (.dup2, 1) := by decide +kernel
theorem dX11_broker_50 : decode cX11_broker 50 = .ok (.iaload, 1) := by decide +kernel
theorem dX11_broker_51 : decode cX11_broker 51 = .ok (.iconst 1, 1) := by decide +kernel
theorem dX11_broker_52 : decode cX11_broker 52 = .ok (.iadd, 1) := by decide +kernel
theorem dX11_broker_53 : decode cX11_broker 53 = .ok (.iastore, 1) := by decide +kernel
theorem dX11_broker_54 : decode cX11_broker 54 = .ok (.aload_n 0, 1) := by decide +kernel
theorem dX11_broker_55 : decode cX11_broker 55 = .ok (.getfield 7, 3) := by decide +kernel
theorem dX11_broker_58 : decode cX11_broker 58 = .ok (.iconst 0, 1) := by decide +kernel
theorem dX11_broker_59 : decode cX11_broker 59 = .ok (.iaload, 1) := by decide +kernel
theorem dX11_broker_60 : decode cX11_broker 60 = .ok (.iconst 1, 1) := by decide +kernel
theorem dX11_broker_61 : decode cX11_broker 61 = .ok (.isub, 1) := by decide +kernel
theorem dX11_broker_62 : decode cX11_broker 62 = .ok (.ireturn, 1) := by decide +kernel
theorem dX11_client_0 : decode cX11_client 0 = .ok (.aload_n 0, 1) := by decide +kernel
theorem dX11_client_1 : decode cX11_client 1 = .ok (.iload_n 1, 1) := by decide +kernel
theorem dX11_client_2 : decode cX11_client 2 = .ok (.invokevirtual 45, 3) := by decide +kernel
theorem dX11_client_5 : decode cX11_client 5 = .ok (.ifCond .ne 6, 3) := by decide +kernel
theorem dX11_client_8 : decode cX11_client 8 = .ok (.ldc 180, 2) := by decide +kernel
theorem dX11_client_10 : decode cX11_client 10 = .ok (.ireturn, 1) := by decide +kernel
theorem dX11_client_11 : decode cX11_client 11 = .ok (.aload_n 0, 1) := by decide +kernel
theorem dX11_client_12 : decode cX11_client 12 = .ok (.getfield 7, 3) := by decide +kernel
theorem dX11_client_15 : decode cX11_client 15 = .ok (.iconst 1, 1) := by decide +kernel
theorem dX11_client_16 : decode cX11_client 16 = .ok (.iaload, 1) := by decide +kernel
theorem dX11_client_17 : decode cX11_client 17 = .ok (.bipush 6, 2) := by decide +kernel
theorem dX11_client_19 : decode cX11_client 19 = .ok (.if_icmp .ne 6, 3) := by decide +kernel
theorem dX11_client_22 : decode cX11_client 22 = .ok (.ldc 197, 2) := by decide +kernel
theorem dX11_client_24 : decode cX11_client 24 = .ok (.ireturn, 1) := by decide +kernel
theorem dX11_client_25 : decode cX11_client 25 = .ok (.aload_n 0, 1) := by decide +kernel
theorem dX11_client_26 : decode cX11_client 26 = .ok (.invokevirtual 198, 3) := by decide +kernel
theorem dX11_client_29 : decode cX11_client 29 = .ok (.aload_n 0, 1) := by decide +kernel
theorem dX11_client_30 : decode cX11_client 30 = .ok (.getfield 7, 3) := by decide +kernel
theorem dX11_client_33 : decode cX11_client 33 = .ok (.iconst 1, 1) := by decide +kernel
theorem dX11_client_34 : decode cX11_client 34 = .ok (.iaload, 1) := by decide +kernel
theorem dX11_client_35 : decode cX11_client 35 = .ok (.istore_n 2, 1) := by decide +kernel
theorem dX11_client_36 : decode cX11_client 36 = .ok (.iconst 0, 1) := by decide +kernel
theorem dX11_client_37 : decode cX11_client 37 = .ok (.istore_n 3, 1) := by decide +kernel
theorem dX11_client_38 : decode cX11_client 38 = .ok (.iload_n 3, 1) := by decide +kernel
theorem dX11_client_39 : decode cX11_client 39 = .ok (.bipush 25, 2) := by decide +kernel
theorem dX11_client_41 : decode cX11_client 41 = .ok (.if_icmp .ge 16, 3) := by decide +kernel
theorem dX11_client_44 : decode cX11_client 44 = .ok (.aload_n 0, 1) := by decide +kernel
theorem dX11_client_45 : decode cX11_client 45 = .ok (.iload_n 2, 1) := by decide +kernel
theorem dX11_client_46 : decode cX11_client 46 = .ok (.iload_n 3, 1) := by decide +kernel
theorem dX11_client_47 : decode cX11_client 47 = .ok (.iconst 0, 1) := by decide +kernel
theorem dX11_client_48 : decode cX11_client 48 = .ok (.invokevirtual 143, 3) := by decide +kernel
theorem dX11_client_51 : decode cX11_client 51 = .ok (.iinc 3 1, 3) := by decide +kernel
theorem dX11_client_54 : decode cX11_client 54 = .ok (.goto (-16), 3) := by decide +kernel
theorem dX11_client_57 : decode cX11_client 57 = .ok (.aload_n 0, 1) := by decide +kernel
theorem dX11_client_58 : decode cX11_client 58 = .ok (.iload_n 2, 1) := by decide +kernel
theorem dX11_client_59 : decode cX11_client 59 = .ok (.iconst 0, 1) := by decide +kernel
theorem dX11_client_60 : decode cX11_client 60 = .ok (.iload_n 1, 1) := by decide +kernel
theorem dX11_client_61 : decode cX11_client 61 = .ok (.invokevirtual 143, 3) := by decide +kernel
theorem dX11_client_64 : decode cX11_client 64 = .ok (.aload_n 0, 1) := by decide +kernel
theorem dX11_client_65 : decode cX11_client 65 = .ok (.iload_n 2, 1) := by decide +kernel
theorem dX11_client_66 : decode cX11_client 66 = .ok (.iconst 1, 1) := by decide +kernel
theorem dX11_client_67 : decode cX11_client 67 = .ok (.iconst 1, 1) := by decide +kernel
theorem dX11_client_68 : decode cX11_client 68 = .ok (.invokevirtual 143, 3) := by decide +kernel
theorem dX11_client_71 : decode cX11_client 71 = .ok (.aload_n 0, 1) := by decide +kernel
theorem dX11_client_72 : decode cX11_client 72 = .ok (.getfield 7, 3) := by decide +kernel
theorem dX11_client_75 : decode cX11_client 75 = .ok (.iconst 1, 1) := by decide +kernel
theorem dX11_client_76 : decode cX11_client 76 = .ok (.dup2, 1) := by decide +kernel
theorem dX11_client_77 : decode cX11_client 77 = .ok (.iaload, 1) := by decide +kernel
theorem dX11_client_78 : decode cX11_client 78 = .ok (.iconst 1, 1) := by decide +kernel
theorem dX11_client_79 : decode cX11_client 79 = .ok (.iadd, 1) := by decide +kernel
theorem dX11_client_80 : decode cX11_client 80 = .ok (.iastore, 1) := by decide +kernel
theorem dX11_client_81 : decode cX11_client 81 = .ok (.iload_n 2, 1) := by decide +kernel
theorem dX11_client_82 : decode cX11_client 82 = .ok (.ireturn, 1) := by decide +kernel
theorem dX11_isKind_0 : decode cX11_isKind 0 = .ok (.iload_n 0, 1) := by decide +kernel
theorem dX11_isKind_1 : decode cX11_isKind 1 = .ok (.iconst 0, 1) := by decide +kernel
theorem dX11_isKind_2 : decode cX11_isKind 2 = .ok (.iconst 3, 1) := by decide +kernel
theorem dX11_isKind_3 : decode cX11_isKind 3 = .ok (.invokestatic 41, 3) := by decide +kernel
theorem dX11_isKind_6 : decode cX11_isKind 6 = .ok (.ifCond .eq 17, 3) := by decide +kernel
theorem dX11_isKind_9 : decode cX11_isKind 9 = .ok (.iload_n 1, 1) := by decide +kernel
theorem dX11_isKind_10 : decode cX11_isKind 10 = .ok (.iconst 0, 1) := by decide +kernel
theorem dX11_isKind_11 : decode cX11_isKind 11 = .ok (.bipush 9, 2) := by decide +kernel
theorem dX11_isKind_13 : decode cX11_isKind 13 = .ok (.invokestatic 41, 3) := by decide +kernel
theorem dX11_isKind_16 : decode cX11_isKind 16 = .ok (.ifCond .eq 7, 3) := by decide +kernel
theorem dX11_isKind_19 : decode cX11_isKind 19 = .ok (.iconst 1, 1) := by decide +kernel
theorem dX11_isKind_20 : decode cX11_isKind 20 = .ok (.goto 4, 3) := by decide +kernel
theorem dX11_isKind_23 : decode cX11_isKind 23 = .ok (.iconst 0, 1) := by decide +kernel
theorem dX11_isKind_24 : decode cX11_isKind 24 = .ok (.ireturn, 1) := by decide +kernel
theorem dX11_bounds_0 : decode cX11_bounds 0 = .ok (.aload_n 0, 1) := by decide +kernel
theorem dX11_bounds_1 : decode cX11_bounds 1 = .ok (.getfield 7, 3) := by decide +kernel
theorem dX11_bounds_4 : decode cX11_bounds 4 = .ok (.sipush 170, 3) := by decide +kernel
theorem dX11_bounds_7 : decode cX11_bounds 7 = .ok (.bipush 7, 2) := by decide +kernel
theorem dX11_bounds_9 : decode cX11_bounds 9 = .ok (.iload_n 1, 1) := by decide +kernel
theorem dX11_bounds_10 : decode cX11_bounds 10 = .ok (.imul, 1) := by decide +kernel
theorem dX11_bounds_11 : decode cX11_bounds 11 = .ok (.iadd, 1) := by decide +kernel
theorem dX11_bounds_12 : decode cX11_bounds 12 = .ok (.iconst 1, 1) := by decide +kernel
theorem dX11_bounds_13 : decode cX11_bounds 13 = .ok (.iadd, 1) := by decide +kernel
theorem dX11_bounds_14 : decode cX11_bounds 14 = .ok (.iconst 2, 1) := by decide +kernel
theorem dX11_bounds_15 : decode cX11_bounds 15 = .ok (.iload_n 2, 1) := by decide +kernel
theorem dX11_bounds_16 : decode cX11_bounds 16 = .ok (.imul, 1) := by decide +kernel
theorem dX11_bounds_17 : decode cX11_bounds 17 = .ok (.iadd, 1) := by decide +kernel
theorem dX11_bounds_18 : decode cX11_bounds 18 = .ok (.iload_n 3, 1) := by decide +kernel
theorem dX11_bounds_19 : decode cX11_bounds 19 = .ok (.iconst 2, 1) := by decide +kernel
theorem dX11_bounds_20 : decode cX11_bounds 20 = .ok (.if_icmp .ge 7, 3) := by decide +kernel
theorem dX11_bounds_23 : decode cX11_bounds 23 = .ok (.iconst 0, 1) := by decide +kernel
theorem dX11_bounds_24 : decode cX11_bounds 24 = .ok (.goto 5, 3) := by decide +kernel
theorem dX11_bounds_27 : decode cX11_bounds 27 = .ok (.iload 4, 2) := by decide +kernel
theorem dX11_bounds_29 : decode cX11_bounds 29 = .ok (.iastore, 1) := by decide +kernel
theorem dX11_bounds_30 : decode cX11_bounds 30 = .ok (.aload_n 0, 1) := by decide +kernel
theorem dX11_bounds_31 : decode cX11_bounds 31 = .ok (.getfield 7, 3) := by decide +kernel
theorem dX11_bounds_34 : decode cX11_bounds 34 = .ok (.sipush 170, 3) := by decide +kernel
theorem dX11_bounds_37 : decode cX11_bounds 37 = .ok (.bipush 7, 2) := by decide +kernel
theorem dX11_bounds_39 : decode cX11_bounds 39 = .ok (.iload_n 1, 1) := by decide +kernel
theorem dX11_bounds_40 : decode cX11_bounds 40 = .ok (.imul, 1) := by decide +kernel
theorem dX11_bounds_41 : decode cX11_bounds 41 = .ok (.iadd, 1) := by decide +kernel
theorem dX11_bounds_42 : decode cX11_bounds 42 = .ok (.iconst 1, 1) := by decide +kernel
theorem dX11_bounds_43 : decode cX11_bounds 43 = .ok (.iadd, 1) := by decide +kernel
theorem dX11_bounds_44 : decode cX11_bounds 44 = .ok (.iconst 2, 1) := by decide +kernel
theorem dX11_bounds_45 : decode cX11_bounds 45 = .ok (.iload_n 2, 1) := by decide +kernel
theorem dX11_bounds_46 : decode cX11_bounds 46 = .ok (.imul, 1) := by decide +kernel
theorem dX11_bounds_47 : decode cX11_bounds 47 = .ok (.iadd, 1) := by decide +kernel
theorem dX11_bounds_48 : decode cX11_bounds 48 = .ok (.iconst 1, 1) := by decide +kernel
theorem dX11_bounds_49 : decode cX11_bounds 49 = .ok (.iadd, 1) := by decide +kernel
theorem dX11_bounds_50 : decode cX11_bounds 50 = .ok (.iload_n 3, 1) := by decide +kernel
theorem dX11_bounds_51 : decode cX11_bounds 51 = .ok (.ifCond .eq 8, 3) := by decide +kernel
theorem dX11_bounds_54 : decode cX11_bounds 54 = .ok (.iload_n 3, 1) := by decide +kernel
theorem dX11_bounds_55 : decode cX11_bounds 55 = .ok (.iconst 2, 1) := by decide +kernel
theorem dX11_bounds_56 : decode cX11_bounds 56 = .ok (.if_icmp .ne 8, 3) := by decide +kernel
theorem dX11_bounds_59 : decode cX11_bounds 59 = .ok (.bipush 9, 2) := by decide +kernel
theorem dX11_bounds_61 : decode cX11_bounds 61 = .ok (.goto 5, 3) := by decide +kernel
theorem dX11_bounds_64 : decode cX11_bounds 64 = .ok (.iload 4, 2) := by decide +kernel
theorem dX11_bounds_66 : decode cX11_bounds 66 = .ok (.iastore, 1) := by decide +kernel
theorem dX11_bounds_67 : decode cX11_bounds 67 = .ok (.return_, 1) := by decide +kernel
theorem dX11_wish__0 : decode cX11_wish_ 0 = .ok (.aload_n 0, 1) := by decide +kernel
theorem dX11_wish__1 : decode cX11_wish_ 1 = .ok (.iload_n 1, 1) := by decide +kernel
theorem dX11_wish__2 : decode cX11_wish_ 2 = .ok (.invokevirtual 163, 3) := by decide +kernel
theorem dX11_wish__5 : decode cX11_wish_ 5 = .ok (.ifCond .ne 6, 3) := by decide +kernel
theorem dX11_wish__8 : decode cX11_wish_ 8 = .ok (.ldc 180, 2) := by decide +kernel
theorem dX11_wish__10 : decode cX11_wish_ 10 = .ok (.ireturn, 1) := by decide +kernel
theorem dX11_wish__11 : decode cX11_wish_ 11 = .ok (.iload_n 2, 1) := by decide +kernel
theorem dX11_wish__12 : decode cX11_wish_ 12 = .ok (.iload_n 3, 1) := by decide +kernel
theorem dX11_wish__13 : decode cX11_wish_ 13 = .ok (.invokestatic 201, 3) := by decide +kernel
theorem dX11_wish__16 : decode cX11_wish_ 16 = .ok (.ifCond .eq 23, 3) := by decide +kernel
theorem dX11_wish__19 : decode cX11_wish_ 19 = .ok (.iload 4, 2) := by decide +kernel
theorem dX11_wish__21 : decode cX11_wish_ 21 = .ok (.iload 5, 2) := by decide +kernel
theorem dX11_wish__23 : decode cX11_wish_ 23 = .ok (.invokestatic 201, 3) := by decide +kernel
theorem dX11_wish__26 : decode cX11_wish_ 26 = .ok (.ifCond .eq 13, 3) := by decide +kernel
theorem dX11_wish__29 : decode cX11_wish_ 29 = .ok (.iload 6, 2) := by decide +kernel
theorem dX11_wish__31 : decode cX11_wish_ 31 = .ok (.iload 7, 2) := by decide +kernel
theorem dX11_wish__33 : decode cX11_wish_ 33 = .ok (.invokestatic 201, 3) := by decide +kernel
theorem dX11_wish__36 : decode cX11_wish_ 36 = .ok (.ifCond .ne 6, 3) := by decide +kernel
theorem dX11_wish__39 : decode cX11_wish_ 39 = .ok (.ldc 179, 2) := by decide +kernel
theorem dX11_wish__41 : decode cX11_wish_ 41 = .ok (.ireturn, 1) := by decide +kernel
theorem dX11_wish__42 : decode cX11_wish_ 42 = .ok (.aload_n 0, 1) := by decide +kernel
theorem dX11_wish__43 : decode cX11_wish_ 43 = .ok (.getfield 7, 3) := by decide +kernel
theorem dX11_wish__46 : decode cX11_wish_ 46 = .ok (.iconst 2, 1) := by decide +kernel
theorem dX11_wish__47 : decode cX11_wish_ 47 = .ok (.iaload, 1) := by decide +kernel
theorem dX11_wish__48 : decode cX11_wish_ 48 = .ok (.bipush 12, 2) := by decide +kernel
theorem dX11_wish__50 : decode cX11_wish_ 50 = .ok (.if_icmp .ne 6, 3) := by decide +kernel
theorem dX11_wish__53 : decode cX11_wish_ 53 = .ok (.ldc 197, 2) := by decide +kernel
theorem dX11_wish__55 : decode cX11_wish_ 55 = .ok (.ireturn, 1) := by decide +kernel
theorem dX11_wish__56 : decode cX11_wish_ 56 = .ok (.aload_n 0, 1) := by decide +kernel
theorem dX11_wish__57 : decode cX11_wish_ 57 = .ok (.invokevirtual 198, 3) := by decide +kernel
theorem dX11_wish__60 : decode cX11_wish_ 60 = .ok (.aload_n 0, 1) := by decide +kernel
theorem dX11_wish__61 : decode cX11_wish_ 61 = .ok (.getfield 7, 3) := by decide +kernel
theorem dX11_wish__64 : decode cX11_wish_ 64 = .ok (.iconst 2, 1) := by decide +kernel
theorem dX11_wish__65 : decode cX11_wish_ 65 = .ok (.iaload, 1) := by decide +kernel
theorem dX11_wish__66 : decode cX11_wish_ 66 = .ok (.istore 8, 2) := by decide +kernel
theorem dX11_wish__68 : decode cX11_wish_ 68 = .ok (.aload_n 0, 1) := by decide +kernel
theorem dX11_wish__69 : decode cX11_wish_ 69 = .ok (.getfield 7, 3) := by decide +kernel
theorem dX11_wish__72 : decode cX11_wish_ 72 = .ok (.sipush 170, 3) := by decide +kernel
theorem dX11_wish__75 : decode cX11_wish_ 75 = .ok (.bipush 7, 2) := by decide +kernel
theorem dX11_wish__77 : decode cX11_wish_ 77 = .ok (.iload 8, 2) := by decide +kernel
theorem dX11_wish__79 : decode cX11_wish_ 79 = .ok (.imul, 1) := by decide +kernel
theorem dX11_wish__80 : decode cX11_wish_ 80 = .ok (.iadd, 1) := by decide +kernel
theorem dX11_wish__81 : decode cX11_wish_ 81 = .ok (.iload_n 1, 1) := by decide +kernel
theorem dX11_wish__82 : decode cX11_wish_ 82 = .ok (.iastore, 1) := by decide +kernel
theorem dX11_wish__83 : decode cX11_wish_ 83 = .ok (.aload_n 0, 1) := by decide +kernel
theorem dX11_wish__84 : decode cX11_wish_ 84 = .ok (.iload 8, 2) := by decide +kernel
theorem dX11_wish__86 : decode cX11_wish_ 86 = .ok (.iconst 0, 1) := by decide +kernel
theorem dX11_wish__87 : decode cX11_wish_ 87 = .ok (.iload_n 2, 1) := by decide +kernel
theorem dX11_wish__88 : decode cX11_wish_ 88 = .ok (.iload_n 3, 1) := by decide +kernel
theorem dX11_wish__89 : decode cX11_wish_ 89 = .ok (.invokevirtual 204, 3) := by decide +kernel
theorem dX11_wish__92 : decode cX11_wish_ 92 = .ok (.aload_n 0, 1) := by decide +kernel
theorem dX11_wish__93 : decode cX11_wish_ 93 = .ok (.iload 8, 2) := by decide +kernel
theorem dX11_wish__95 : decode cX11_wish_ 95 = .ok (.iconst 1, 1) := by decide +kernel
theorem dX11_wish__96 : decode cX11_wish_ 96 = .ok (.iload 4, 2) := by decide +kernel
theorem dX11_wish__98 : decode cX11_wish_ 98 = .ok (.iload 5, 2) := by decide +kernel
theorem dX11_wish__100 : decode cX11_wish_ 100 = .ok (.invokevirtual 204, 3) := by decide +kernel
theorem dX11_wish__103 : decode cX11_wish_ 103 = .ok (.aload_n 0, 1) := by decide +kernel
theorem dX11_wish__104 : decode cX11_wish_ 104 = .ok (.iload 8, 2) := by decide +kernel
theorem dX11_wish__106 : decode cX11_wish_ 106 = .ok (.iconst 2, 1) := by decide +kernel
theorem dX11_wish__107 : decode cX11_wish_ 107 = .ok (.iload 6, 2) := by decide +kernel
theorem dX11_wish__109 : decode cX11_wish_ 109 = .ok (.iload 7, 2) := by decide +kernel
theorem dX11_wish__111 : decode cX11_wish_ 111 = .ok (.invokevirtual 204, 3) := by decide +kernel
theorem dX11_wish__114 : decode cX11_wish_ 114 = .ok (.aload_n 0, 1) := by decide +kernel
theorem dX11_wish__115 : decode cX11_wish_ 115 = .ok (.getfield 7, 3) := by decide +kernel
theorem dX11_wish__118 : decode cX11_wish_ 118 = .ok (.iconst 2, 1) := by decide +kernel
theorem dX11_wish__119 : decode cX11_wish_ 119 = .ok (.dup2, 1) := by decide +kernel
theorem dX11_wish__120 : decode cX11_wish_ 120 = .ok (.iaload, 1) := by decide +kernel
theorem dX11_wish__121 : decode cX11_wish_ 121 = .ok (.iconst 1, 1) := by decide +kernel
theorem dX11_wish__122 : decode cX11_wish_ 122 = .ok (.iadd, 1) := by decide +kernel
theorem dX11_wish__123 : decode cX11_wish_ 123 = .ok (.iastore, 1) := by decide +kernel
theorem dX11_wish__124 : decode cX11_wish_ 124 = .ok (.iload 8, 2) := by decide +kernel
theorem dX11_wish__126 : decode cX11_wish_ 126 = .ok (.ireturn, 1) := by decide +kernel
theorem dX11_dropsWish_0 : decode cX11_dropsWish 0 = .ok (.aload_n 0, 1) := by decide +kernel
theorem dX11_dropsWish_1 : decode cX11_dropsWish 1 = .ok (.getfield 7, 3) := by decide +kernel
theorem dX11_dropsWish_4 : decode cX11_dropsWish 4 = .ok (.iconst 2, 1) := by decide +kernel
theorem dX11_dropsWish_5 : decode cX11_dropsWish 5 = .ok (.dup2, 1) := by decide +kernel
theorem dX11_dropsWish_6 : decode cX11_dropsWish 6 = .ok (.iaload, 1) := by decide +kernel
theorem dX11_dropsWish_7 : decode cX11_dropsWish 7 = .ok (.iconst 1, 1) := by decide +kernel
theorem dX11_dropsWish_8 : decode cX11_dropsWish 8 = .ok (.isub, 1) := by decide +kernel
theorem dX11_dropsWish_9 : decode cX11_dropsWish 9 = .ok (.iastore, 1) := by decide +kernel
theorem dX11_dropsWish_10 : decode cX11_dropsWish 10 = .ok (.sipush 170, 3) := by decide +kernel
theorem dX11_dropsWish_13 : decode cX11_dropsWish 13 = .ok (.bipush 7, 2) := by decide +kernel
theorem dX11_dropsWish_15 : decode cX11_dropsWish 15 = .ok (.iload_n 1, 1) := by decide +kernel
theorem dX11_dropsWish_16 : decode cX11_dropsWish 16 = .ok (.imul, 1) := by decide +kernel
theorem dX11_dropsWish_17 : decode cX11_dropsWish 17 = .ok (.iadd, 1) := by decide +kernel
theorem dX11_dropsWish_18 : decode cX11_dropsWish 18 = .ok (.istore_n 2, 1) := by decide +kernel
theorem dX11_dropsWish_19 : decode cX11_dropsWish 19 = .ok (.iload_n 2, 1) := by decide +kernel
theorem dX11_dropsWish_20 : decode cX11_dropsWish 20 = .ok (.sipush 170, 3) := by decide +kernel
theorem dX11_dropsWish_23 : decode cX11_dropsWish 23 = .ok (.bipush 7, 2) := by decide +kernel
theorem dX11_dropsWish_25 : decode cX11_dropsWish 25 = .ok (.aload_n 0, 1) := by decide +kernel
theorem dX11_dropsWish_26 : decode cX11_dropsWish 26 = .ok (.getfield 7, 3) := by decide +kernel
theorem dX11_dropsWish_29 : decode cX11_dropsWish 29 = .ok (.iconst 2, 1) := by decide +kernel
theorem dX11_dropsWish_30 : decode cX11_dropsWish 30 = .ok (.iaload, 1) := by decide +kernel
theorem dX11_dropsWish_31 : decode cX11_dropsWish 31 = .ok (.imul, 1) := by decide +kernel
theorem dX11_dropsWish_32 : decode cX11_dropsWish 32 = .ok (.iadd, 1) := by decide +kernel
theorem dX11_dropsWish_33 : decode cX11_dropsWish 33 = .ok (.if_icmp .ge 24, 3) := by decide +kernel
theorem dX11_dropsWish_36 : decode cX11_dropsWish 36 = .ok (.aload_n 0, 1) := by decide +kernel
theorem dX11_dropsWish_37 : decode cX11_dropsWish 37 = .ok (.getfield 7, 3) := by decide +kernel
theorem dX11_dropsWish_40 : decode cX11_dropsWish 40 = .ok (.iload_n 2, 1) := by decide +kernel
theorem dX11_dropsWish_41 : decode cX11_dropsWish 41 = .ok (.aload_n 0, 1) := by decide +kernel
theorem dX11_dropsWish_42 : decode cX11_dropsWish 42 = .ok (.getfield 7, 3) := by decide +kernel
theorem dX11_dropsWish_45 : decode cX11_dropsWish 45 = .ok (.iload_n 2, 1) := by decide +kernel
theorem dX11_dropsWish_46 : decode cX11_dropsWish 46 = .ok (.bipush 7, 2) := by decide +kernel
theorem dX11_dropsWish_48 : decode cX11_dropsWish 48 = .ok (.iadd, 1) := by decide +kernel
theorem dX11_dropsWish_49 : decode cX11_dropsWish 49 = .ok (.iaload, 1) := by decide +kernel
theorem dX11_dropsWish_50 : decode cX11_dropsWish 50 = .ok (.iastore, 1) := by decide +kernel
theorem dX11_dropsWish_51 : decode cX11_dropsWish 51 = .ok (.iinc 2 1, 3) := by decide +kernel
theorem dX11_dropsWish_54 : decode cX11_dropsWish 54 = .ok (.goto (-35), 3) := by decide +kernel
theorem dX11_dropsWish_57 : decode cX11_dropsWish 57 = .ok (.return_, 1) := by decide +kernel
theorem dX11_drop_0 : decode cX11_drop 0 = .ok (.aload_n 0, 1) := by decide +kernel
theorem dX11_drop_1 : decode cX11_drop 1 = .ok (.iload_n 1, 1) := by decide +kernel
theorem dX11_drop_2 : decode cX11_drop 2 = .ok (.invokevirtual 184, 3) := by decide +kernel
theorem dX11_drop_5 : decode cX11_drop 5 = .ok (.ifCond .ne 6, 3) := by decide +kernel
theorem dX11_drop_8 : decode cX11_drop 8 = .ok (.ldc 180, 2) := by decide +kernel
theorem dX11_drop_10 : decode cX11_drop 10 = .ok (.ireturn, 1) := by decide +kernel
theorem dX11_drop_11 : decode cX11_drop 11 = .ok (.aload_n 0, 1) := by decide +kernel
theorem dX11_drop_12 : decode cX11_drop 12 = .ok (.invokevirtual 198, 3) := by decide +kernel
theorem dX11_drop_15 : decode cX11_drop 15 = .ok (.aload_n 0, 1) := by decide +kernel
theorem dX11_drop_16 : decode cX11_drop 16 = .ok (.iload_n 1, 1) := by decide +kernel
theorem dX11_drop_17 : decode cX11_drop 17 = .ok (.invokevirtual 207, 3) := by decide +kernel
theorem dX11_drop_20 : decode cX11_drop 20 = .ok (.aload_n 0, 1) := by decide +kernel
theorem dX11_drop_21 : decode cX11_drop 21 = .ok (.getfield 7, 3) := by decide +kernel
theorem dX11_drop_24 : decode cX11_drop 24 = .ok (.iconst 2, 1) := by decide +kernel
theorem dX11_drop_25 : decode cX11_drop 25 = .ok (.iaload, 1) := by decide +kernel
theorem dX11_drop_26 : decode cX11_drop 26 = .ok (.ireturn, 1) := by decide +kernel
theorem dX11_most_0 : decode cX11_most 0 = .ok (.iload_n 1, 1) := by decide +kernel
theorem dX11_most_1 : decode cX11_most 1 = .ok (.iconst 1, 1) := by decide +kernel
theorem dX11_most_2 : decode cX11_most 2 = .ok (.bipush 9, 2) := by decide +kernel
theorem dX11_most_4 : decode cX11_most 4 = .ok (.invokestatic 41, 3) := by decide +kernel
theorem dX11_most_7 : decode cX11_most 7 = .ok (.ifCond .ne 6, 3) := by decide +kernel
theorem dX11_most_10 : decode cX11_most 10 = .ok (.ldc 179, 2) := by decide +kernel
theorem dX11_most_12 : decode cX11_most 12 = .ok (.ireturn, 1) := by decide +kernel
theorem dX11_most_13 : decode cX11_most 13 = .ok (.aload_n 0, 1) := by decide +kernel
theorem dX11_most_14 : decode cX11_most 14 = .ok (.invokevirtual 198, 3) := by decide +kernel
theorem dX11_most_17 : decode cX11_most 17 = .ok (.aload_n 0, 1) := by decide +kernel
theorem dX11_most_18 : decode cX11_most 18 = .ok (.getfield 7, 3) := by decide +kernel
theorem dX11_most_21 : decode cX11_most 21 = .ok (.iconst 3, 1) := by decide +kernel
theorem dX11_most_22 : decode cX11_most 22 = .ok (.iaload, 1) := by decide +kernel
theorem dX11_most_23 : decode cX11_most 23 = .ok (.istore_n 2, 1) := by decide +kernel
theorem dX11_most_24 : decode cX11_most 24 = .ok (.aload_n 0, 1) := by decide +kernel
theorem dX11_most_25 : decode cX11_most 25 = .ok (.getfield 7, 3) := by decide +kernel
theorem dX11_most_28 : decode cX11_most 28 = .ok (.iconst 3, 1) := by decide +kernel
theorem dX11_most_29 : decode cX11_most 29 = .ok (.iload_n 1, 1) := by decide +kernel
theorem dX11_most_30 : decode cX11_most 30 = .ok (.iastore, 1) := by decide +kernel
theorem dX11_most_31 : decode cX11_most 31 = .ok (.iload_n 2, 1) := by decide +kernel
theorem dX11_most_32 : decode cX11_most 32 = .ok (.ireturn, 1) := by decide +kernel
theorem dX11_put_0 : decode cX11_put 0 = .ok (.aload_n 0, 1) := by decide +kernel
theorem dX11_put_1 : decode cX11_put 1 = .ok (.iload_n 1, 1) := by decide +kernel
theorem dX11_put_2 : decode cX11_put 2 = .ok (.invokevirtual 45, 3) := by decide +kernel
theorem dX11_put_5 : decode cX11_put 5 = .ok (.ifCond .ne 6, 3) := by decide +kernel
theorem dX11_put_8 : decode cX11_put 8 = .ok (.ldc 180, 2) := by decide +kernel
theorem dX11_put_10 : decode cX11_put 10 = .ok (.ireturn, 1) := by decide +kernel
theorem dX11_put_11 : decode cX11_put 11 = .ok (.iload_n 2, 1) := by decide +kernel
theorem dX11_put_12 : decode cX11_put 12 = .ok (.iload_n 3, 1) := by decide +kernel
theorem dX11_put_13 : decode cX11_put 13 = .ok (.iload 4, 2) := by decide +kernel
theorem dX11_put_15 : decode cX11_put 15 = .ok (.invokestatic 194, 3) := by decide +kernel
theorem dX11_put_18 : decode cX11_put 18 = .ok (.ifCond .ne 6, 3) := by decide +kernel
theorem dX11_put_21 : decode cX11_put 21 = .ok (.ldc 179, 2) := by decide +kernel
theorem dX11_put_23 : decode cX11_put 23 = .ok (.ireturn, 1) := by decide +kernel
theorem dX11_put_24 : decode cX11_put 24 = .ok (.aload_n 0, 1) := by decide +kernel
theorem dX11_put_25 : decode cX11_put 25 = .ok (.invokevirtual 198, 3) := by decide +kernel
theorem dX11_put_28 : decode cX11_put 28 = .ok (.aload_n 0, 1) := by decide +kernel
theorem dX11_put_29 : decode cX11_put 29 = .ok (.iload_n 1, 1) := by decide +kernel
theorem dX11_put_30 : decode cX11_put 30 = .ok (.iload_n 2, 1) := by decide +kernel
theorem dX11_put_31 : decode cX11_put 31 = .ok (.iload_n 3, 1) := by decide +kernel
theorem dX11_put_32 : decode cX11_put 32 = .ok (.iload 4, 2) := by decide +kernel
theorem dX11_put_34 : decode cX11_put 34 = .ok (.invokevirtual 210, 3) := by decide +kernel
theorem dX11_put_37 : decode cX11_put 37 = .ok (.ireturn, 1) := by decide +kernel
theorem dX11_leave_0 : decode cX11_leave 0 = .ok (.aload_n 0, 1) := by decide +kernel
theorem dX11_leave_1 : decode cX11_leave 1 = .ok (.iload_n 1, 1) := by decide +kernel
theorem dX11_leave_2 : decode cX11_leave 2 = .ok (.invokevirtual 163, 3) := by decide +kernel
theorem dX11_leave_5 : decode cX11_leave 5 = .ok (.ifCond .ne 6, 3) := by decide +kernel
theorem dX11_leave_8 : decode cX11_leave 8 = .ok (.ldc 180, 2) := by decide +kernel
theorem dX11_leave_10 : decode cX11_leave 10 = .ok (.ireturn, 1) := by decide +kernel
theorem dX11_leave_11 : decode cX11_leave 11 = .ok (.aload_n 0, 1) := by decide +kernel
theorem dX11_leave_12 : decode cX11_leave 12 = .ok (.iload_n 1, 1) := by decide +kernel
theorem dX11_leave_13 : decode cX11_leave 13 = .ok (.iconst 1, 1) := by decide +kernel
theorem dX11_leave_14 : decode cX11_leave 14 = .ok (.invokevirtual 90, 3) := by decide +kernel
theorem dX11_leave_17 : decode cX11_leave 17 = .ok (.ifCond .ne 6, 3) := by decide +kernel
theorem dX11_leave_20 : decode cX11_leave 20 = .ok (.ldc 214, 2) := by decide +kernel
theorem dX11_leave_22 : decode cX11_leave 22 = .ok (.ireturn, 1) := by decide +kernel
theorem dX11_leave_23 : decode cX11_leave 23 = .ok (.aload_n 0, 1) := by decide +kernel
theorem dX11_leave_24 : decode cX11_leave 24 = .ok (.invokevirtual 198, 3) := by decide +kernel
theorem dX11_leave_27 : decode cX11_leave 27 = .ok (.aload_n 0, 1) := by decide +kernel
theorem dX11_leave_28 : decode cX11_leave 28 = .ok (.iload_n 1, 1) := by decide +kernel
theorem dX11_leave_29 : decode cX11_leave 29 = .ok (.iconst 1, 1) := by decide +kernel
theorem dX11_leave_30 : decode cX11_leave 30 = .ok (.iconst 0, 1) := by decide +kernel
theorem dX11_leave_31 : decode cX11_leave 31 = .ok (.invokevirtual 143, 3) := by decide +kernel
theorem dX11_leave_34 : decode cX11_leave 34 = .ok (.aload_n 0, 1) := by decide +kernel
theorem dX11_leave_35 : decode cX11_leave 35 = .ok (.iload_n 1, 1) := by decide +kernel
theorem dX11_leave_36 : decode cX11_leave 36 = .ok (.iconst 0, 1) := by decide +kernel
theorem dX11_leave_37 : decode cX11_leave 37 = .ok (.invokevirtual 90, 3) := by decide +kernel
theorem dX11_leave_40 : decode cX11_leave 40 = .ok (.ireturn, 1) := by decide +kernel
theorem dX11_come_0 : decode cX11_come 0 = .ok (.aload_n 0, 1) := by decide +kernel
theorem dX11_come_1 : decode cX11_come 1 = .ok (.iload_n 1, 1) := by decide +kernel
theorem dX11_come_2 : decode cX11_come 2 = .ok (.invokevirtual 163, 3) := by decide +kernel
theorem dX11_come_5 : decode cX11_come 5 = .ok (.ifCond .eq 11, 3) := by decide +kernel
theorem dX11_come_8 : decode cX11_come 8 = .ok (.aload_n 0, 1) := by decide +kernel
theorem dX11_come_9 : decode cX11_come 9 = .ok (.iload_n 2, 1) := by decide +kernel
theorem dX11_come_10 : decode cX11_come 10 = .ok (.invokevirtual 45, 3) := by decide +kernel
theorem dX11_come_13 : decode cX11_come 13 = .ok (.ifCond .ne 6, 3) := by decide +kernel
theorem dX11_come_16 : decode cX11_come 16 = .ok (.ldc 180, 2) := by decide +kernel
theorem dX11_come_18 : decode cX11_come 18 = .ok (.ireturn, 1) := by decide +kernel
theorem dX11_come_19 : decode cX11_come 19 = .ok (.aload_n 0, 1) := by decide +kernel
theorem dX11_come_20 : decode cX11_come 20 = .ok (.iload_n 1, 1) := by decide +kernel
theorem dX11_come_21 : decode cX11_come 21 = .ok (.iconst 1, 1) := by decide +kernel
theorem dX11_come_22 : decode cX11_come 22 = .ok (.invokevirtual 90, 3) := by decide +kernel
theorem dX11_come_25 : decode cX11_come 25 = .ok (.iconst 1, 1) := by decide +kernel
theorem dX11_come_26 : decode cX11_come 26 = .ok (.if_icmp .ne 6, 3) := by decide +kernel
theorem dX11_come_29 : decode cX11_come 29 = .ok (.ldc 214, 2) := by decide +kernel
theorem dX11_come_31 : decode cX11_come 31 = .ok (.ireturn, 1) := by decide +kernel
theorem dX11_come_32 : decode cX11_come 32 = .ok (.aload_n 0, 1) := by decide +kernel
theorem dX11_come_33 : decode cX11_come 33 = .ok (.invokevirtual 198, 3) := by decide +kernel
theorem dX11_come_36 : decode cX11_come 36 = .ok (.aload_n 0, 1) := by decide +kernel
theorem dX11_come_37 : decode cX11_come 37 = .ok (.iload_n 1, 1) := by decide +kernel
theorem dX11_come_38 : decode cX11_come 38 = .ok (.iconst 4, 1) := by decide +kernel
theorem dX11_come_39 : decode cX11_come 39 = .ok (.invokevirtual 90, 3) := by decide +kernel
theorem dX11_come_42 : decode cX11_come 42 = .ok (.istore_n 3, 1) := by decide +kernel
theorem dX11_come_43 : decode cX11_come 43 = .ok (.iconst 0, 1) := by decide +kernel
theorem dX11_come_44 : decode cX11_come 44 = .ok (.istore 4, 2) := by decide +kernel
theorem dX11_come_46 : decode cX11_come 46 = .ok (.iload 4, 2) := by decide +kernel
theorem dX11_come_48 : decode cX11_come 48 = .ok (.iload_n 3, 1) := by decide +kernel
theorem dX11_come_49 : decode cX11_come 49 = .ok (.if_icmp .ge 24, 3) := by decide +kernel
theorem dX11_come_52 : decode cX11_come 52 = .ok (.aload_n 0, 1) := by decide +kernel
theorem dX11_come_53 : decode cX11_come 53 = .ok (.iload_n 1, 1) := by decide +kernel
theorem dX11_come_54 : decode cX11_come 54 = .ok (.aload_n 0, 1) := by decide +kernel
theorem dX11_come_55 : decode cX11_come 55 = .ok (.iload_n 1, 1) := by decide +kernel
theorem dX11_come_56 : decode cX11_come 56 = .ok (.bipush 17, 2) := by decide +kernel
theorem dX11_come_58 : decode cX11_come 58 = .ok (.iload 4, 2) := by decide +kernel
theorem dX11_come_60 : decode cX11_come 60 = .ok (.iadd, 1) := by decide +kernel
theorem dX11_come_61 : decode cX11_come 61 = .ok (.invokevirtual 90, 3) := by decide +kernel
theorem dX11_come_64 : decode cX11_come 64 = .ok (.invokevirtual 151, 3) := by decide +kernel
theorem dX11_come_67 : decode cX11_come 67 = .ok (.iinc 4 1, 3) := by decide +kernel
theorem dX11_come_70 : decode cX11_come 70 = .ok (.goto (-24), 3) := by decide +kernel
theorem dX11_come_73 : decode cX11_come 73 = .ok (.aload_n 0, 1) := by decide +kernel
theorem dX11_come_74 : decode cX11_come 74 = .ok (.iload_n 1, 1) := by decide +kernel
theorem dX11_come_75 : decode cX11_come 75 = .ok (.iconst 4, 1) := by decide +kernel
theorem dX11_come_76 : decode cX11_come 76 = .ok (.iconst 0, 1) := by decide +kernel
theorem dX11_come_77 : decode cX11_come 77 = .ok (.invokevirtual 143, 3) := by decide +kernel
theorem dX11_come_80 : decode cX11_come 80 = .ok (.aload_n 0, 1) := by decide +kernel
theorem dX11_come_81 : decode cX11_come 81 = .ok (.iload_n 1, 1) := by decide +kernel
theorem dX11_come_82 : decode cX11_come 82 = .ok (.iconst 0, 1) := by decide +kernel
theorem dX11_come_83 : decode cX11_come 83 = .ok (.iload_n 2, 1) := by decide +kernel
theorem dX11_come_84 : decode cX11_come 84 = .ok (.invokevirtual 143, 3) := by decide +kernel
theorem dX11_come_87 : decode cX11_come 87 = .ok (.aload_n 0, 1) := by decide +kernel
theorem dX11_come_88 : decode cX11_come 88 = .ok (.iload_n 1, 1) := by decide +kernel
theorem dX11_come_89 : decode cX11_come 89 = .ok (.iconst 1, 1) := by decide +kernel
theorem dX11_come_90 : decode cX11_come 90 = .ok (.iconst 1, 1) := by decide +kernel
theorem dX11_come_91 : decode cX11_come 91 = .ok (.invokevirtual 143, 3) := by decide +kernel
theorem dX11_come_94 : decode cX11_come 94 = .ok (.iload_n 3, 1) := by decide +kernel
theorem dX11_come_95 : decode cX11_come 95 = .ok (.ireturn, 1) := by decide +kernel
theorem dX11_part_0 : decode cX11_part 0 = .ok (.aload_n 0, 1) := by decide +kernel
theorem dX11_part_1 : decode cX11_part 1 = .ok (.getfield 7, 3) := by decide +kernel
theorem dX11_part_4 : decode cX11_part 4 = .ok (.iconst 1, 1) := by decide +kernel
theorem dX11_part_5 : decode cX11_part 5 = .ok (.iaload, 1) := by decide +kernel
theorem dX11_part_6 : decode cX11_part 6 = .ok (.ifCond .ne 6, 3) := by decide +kernel
theorem dX11_part_9 : decode cX11_part 9 = .ok (.ldc 214, 2) := by decide +kernel
theorem dX11_part_11 : decode cX11_part 11 = .ok (.ireturn, 1) := by decide +kernel
theorem dX11_part_12 : decode cX11_part 12 = .ok (.aload_n 0, 1) := by decide +kernel
theorem dX11_part_13 : decode cX11_part 13 = .ok (.invokevirtual 198, 3) := by decide +kernel
theorem dX11_part_16 : decode cX11_part 16 = .ok (.aload_n 0, 1) := by decide +kernel
theorem dX11_part_17 : decode cX11_part 17 = .ok (.getfield 7, 3) := by decide +kernel
theorem dX11_part_20 : decode cX11_part 20 = .ok (.iconst 1, 1) := by decide +kernel
theorem dX11_part_21 : decode cX11_part 21 = .ok (.dup2, 1) := by decide +kernel
theorem dX11_part_22 : decode cX11_part 22 = .ok (.iaload, 1) := by decide +kernel
theorem dX11_part_23 : decode cX11_part 23 = .ok (.iconst 1, 1) := by decide +kernel
theorem dX11_part_24 : decode cX11_part 24 = .ok (.isub, 1) := by decide +kernel
theorem dX11_part_25 : decode cX11_part 25 = .ok (.iastore, 1) := by decide +kernel
theorem dX11_part_26 : decode cX11_part 26 = .ok (.aload_n 0, 1) := by decide +kernel
theorem dX11_part_27 : decode cX11_part 27 = .ok (.getfield 7, 3) := by decide +kernel
theorem dX11_part_30 : decode cX11_part 30 = .ok (.iconst 2, 1) := by decide +kernel
theorem dX11_part_31 : decode cX11_part 31 = .ok (.iaload, 1) := by decide +kernel
theorem dX11_part_32 : decode cX11_part 32 = .ok (.iconst 1, 1) := by decide +kernel
theorem dX11_part_33 : decode cX11_part 33 = .ok (.isub, 1) := by decide +kernel
theorem dX11_part_34 : decode cX11_part 34 = .ok (.istore_n 1, 1) := by decide +kernel
theorem dX11_part_35 : decode cX11_part 35 = .ok (.iload_n 1, 1) := by decide +kernel
theorem dX11_part_36 : decode cX11_part 36 = .ok (.ifCond .lt 29, 3) := by decide +kernel
theorem dX11_part_39 : decode cX11_part 39 = .ok (.aload_n 0, 1) := by decide +kernel
theorem dX11_part_40 : decode cX11_part 40 = .ok (.iload_n 1, 1) := by decide +kernel
theorem dX11_part_41 : decode cX11_part 41 = .ok (.iconst 0, 1) := by decide +kernel
theorem dX11_part_42 : decode cX11_part 42 = .ok (.invokevirtual 87, 3) := by decide +kernel
theorem dX11_part_45 : decode cX11_part 45 = .ok (.aload_n 0, 1) := by decide +kernel
theorem dX11_part_46 : decode cX11_part 46 = .ok (.getfield 7, 3) := by decide +kernel
theorem dX11_part_49 : decode cX11_part 49 = .ok (.iconst 1, 1) := by decide +kernel
theorem dX11_part_50 : decode cX11_part 50 = .ok (.iaload, 1) := by decide +kernel
theorem dX11_part_51 : decode cX11_part 51 = .ok (.if_icmp .ne 8, 3) := by decide +kernel
theorem dX11_part_54 : decode cX11_part 54 = .ok (.aload_n 0, 1) := by decide +kernel
theorem dX11_part_55 : decode cX11_part 55 = .ok (.iload_n 1, 1) := by decide +kernel
theorem dX11_part_56 : decode cX11_part 56 = .ok (.invokevirtual 207, 3) := by decide +kernel
theorem dX11_part_59 : decode cX11_part 59 = .ok (.iinc 1 (-1), 3) := by decide +kernel
theorem dX11_part_62 : decode cX11_part 62 = .ok (.goto (-27), 3) := by decide +kernel
theorem dX11_part_65 : decode cX11_part 65 = .ok (.aload_n 0, 1) := by decide +kernel
theorem dX11_part_66 : decode cX11_part 66 = .ok (.getfield 7, 3) := by decide +kernel
theorem dX11_part_69 : decode cX11_part 69 = .ok (.iconst 1, 1) := by decide +kernel
theorem dX11_part_70 : decode cX11_part 70 = .ok (.iaload, 1) := by decide +kernel
theorem dX11_part_71 : decode cX11_part 71 = .ok (.ireturn, 1) := by decide +kernel
theorem dX11_draws_0 : decode cX11_draws 0 = .ok (.aload_n 0, 1) := by decide +kernel
theorem dX11_draws_1 : decode cX11_draws 1 = .ok (.aload_n 0, 1) := by decide +kernel
theorem dX11_draws_2 : decode cX11_draws 2 = .ok (.getfield 176, 3) := by decide +kernel
theorem dX11_draws_5 : decode cX11_draws 5 = .ok (.i2l, 1) := by decide +kernel
theorem dX11_draws_6 : decode cX11_draws 6 = .ok (.ldc2_w 215, 3) := by decide +kernel
theorem dX11_draws_9 : decode cX11_draws 9 = .ok (.lmul, 1) := by decide +kernel
theorem dX11_draws_10 : decode cX11_draws 10 = .ok (.ldc2_w 217, 3) := by decide +kernel
theorem dX11_draws_13 : decode cX11_draws 13 = .ok (.ladd, 1) := by decide +kernel
theorem dX11_draws_14 : decode cX11_draws 14 = .ok (.ldc2_w 219, 3) := by decide +kernel
theorem dX11_draws_17 : decode cX11_draws 17 = .ok (.lrem, 1) := by decide +kernel
theorem dX11_draws_18 : decode cX11_draws 18 = .ok (.l2i, 1) := by decide +kernel
theorem dX11_draws_19 : decode cX11_draws 19 = .ok (.putfield 176, 3) := by decide +kernel
theorem dX11_draws_22 : decode cX11_draws 22 = .ok (.aload_n 0, 1) := by decide +kernel
theorem dX11_draws_23 : decode cX11_draws 23 = .ok (.getfield 176, 3) := by decide +kernel
theorem dX11_draws_26 : decode cX11_draws 26 = .ok (.ldc 221, 2) := by decide +kernel
theorem dX11_draws_28 : decode cX11_draws 28 = .ok (.idiv, 1) := by decide +kernel
theorem dX11_draws_29 : decode cX11_draws 29 = .ok (.iload_n 1, 1) := by decide +kernel
theorem dX11_draws_30 : decode cX11_draws 30 = .ok (.irem, 1) := by decide +kernel
theorem dX11_draws_31 : decode cX11_draws 31 = .ok (.ireturn, 1) := by decide +kernel
theorem dX11_drift_0 : decode cX11_drift 0 = .ok (.iload_n 1, 1) := by decide +kernel
theorem dX11_drift_1 : decode cX11_drift 1 = .ok (.iconst 1, 1) := by decide +kernel
theorem dX11_drift_2 : decode cX11_drift 2 = .ok (.bipush 8, 2) := by decide +kernel
theorem dX11_drift_4 : decode cX11_drift 4 = .ok (.invokestatic 41, 3) := by decide +kernel
theorem dX11_drift_7 : decode cX11_drift 7 = .ok (.ifCond .ne 6, 3) := by decide +kernel
theorem dX11_drift_10 : decode cX11_drift 10 = .ok (.ldc 179, 2) := by decide +kernel
theorem dX11_drift_12 : decode cX11_drift 12 = .ok (.ireturn, 1) := by decide +kernel
theorem dX11_drift_13 : decode cX11_drift 13 = .ok (.iconst 0, 1) := by decide +kernel
theorem dX11_drift_14 : decode cX11_drift 14 = .ok (.istore_n 2, 1) := by decide +kernel
theorem dX11_drift_15 : decode cX11_drift 15 = .ok (.iload_n 2, 1) := by decide +kernel
theorem dX11_drift_16 : decode cX11_drift 16 = .ok (.iload_n 1, 1) := by decide +kernel
theorem dX11_drift_17 : decode cX11_drift 17 = .ok (.if_icmp .ge 60, 3) := by decide +kernel
theorem dX11_drift_20 : decode cX11_drift 20 = .ok (.aload_n 0, 1) := by decide +kernel
theorem dX11_drift_21 : decode cX11_drift 21 = .ok (.invokevirtual 198, 3) := by decide +kernel
theorem dX11_drift_24 : decode cX11_drift 24 = .ok (.aload_n 0, 1) := by decide +kernel
theorem dX11_drift_25 : decode cX11_drift 25 = .ok (.aload_n 0, 1) := by decide +kernel
theorem dX11_drift_26 : decode cX11_drift 26 = .ok (.getfield 7, 3) := by decide +kernel
theorem dX11_drift_29 : decode cX11_drift 29 = .ok (.iconst 0, 1) := by decide +kernel
theorem dX11_drift_30 : decode cX11_drift 30 = .ok (.iaload, 1) := by decide +kernel
theorem dX11_drift_31 : decode cX11_drift 31 = .ok (.invokevirtual 222, 3) := by decide +kernel
theorem dX11_drift_34 : decode cX11_drift 34 = .ok (.istore_n 3, 1) := by decide +kernel
theorem dX11_drift_35 : decode cX11_drift 35 = .ok (.aload_n 0, 1) := by decide +kernel
theorem dX11_drift_36 : decode cX11_drift 36 = .ok (.bipush 10, 2) := by decide +kernel
theorem dX11_drift_38 : decode cX11_drift 38 = .ok (.invokevirtual 222, 3) := by decide +kernel
theorem dX11_drift_41 : decode cX11_drift 41 = .ok (.istore 4, 2) := by decide +kernel
theorem dX11_drift_43 : decode cX11_drift 43 = .ok (.aload_n 0, 1) := by decide +kernel
theorem dX11_drift_44 : decode cX11_drift 44 = .ok (.bipush 10, 2) := by decide +kernel
theorem dX11_drift_46 : decode cX11_drift 46 = .ok (.invokevirtual 222, 3) := by decide +kernel
theorem dX11_drift_49 : decode cX11_drift 49 = .ok (.istore 5, 2) := by decide +kernel
theorem dX11_drift_51 : decode cX11_drift 51 = .ok (.aload_n 0, 1) := by decide +kernel
theorem dX11_drift_52 : decode cX11_drift 52 = .ok (.bipush 10, 2) := by decide +kernel
theorem dX11_drift_54 : decode cX11_drift 54 = .ok (.invokevirtual 222, 3) := by decide +kernel
theorem dX11_drift_57 : decode cX11_drift 57 = .ok (.istore 6, 2) := by decide +kernel
theorem dX11_drift_59 : decode cX11_drift 59 = .ok (.aload_n 0, 1) := by decide +kernel
theorem dX11_drift_60 : decode cX11_drift 60 = .ok (.iload_n 3, 1) := by decide +kernel
theorem dX11_drift_61 : decode cX11_drift 61 = .ok (.iload 4, 2) := by decide +kernel
theorem dX11_drift_63 : decode cX11_drift 63 = .ok (.iload 5, 2) := by decide +kernel
theorem dX11_drift_65 : decode cX11_drift 65 = .ok (.iload 6, 2) := by decide +kernel
theorem dX11_drift_67 : decode cX11_drift 67 = .ok (.invokevirtual 210, 3) := by decide +kernel
theorem dX11_drift_70 : decode cX11_drift 70 = .ok (.pop, 1) := by decide +kernel
theorem dX11_drift_71 : decode cX11_drift 71 = .ok (.iinc 2 1, 3) := by decide +kernel
theorem dX11_drift_74 : decode cX11_drift 74 = .ok (.goto (-59), 3) := by decide +kernel
theorem dX11_drift_77 : decode cX11_drift 77 = .ok (.aload_n 0, 1) := by decide +kernel
theorem dX11_drift_78 : decode cX11_drift 78 = .ok (.getfield 7, 3) := by decide +kernel
theorem dX11_drift_81 : decode cX11_drift 81 = .ok (.iconst 4, 1) := by decide +kernel
theorem dX11_drift_82 : decode cX11_drift 82 = .ok (.iaload, 1) := by decide +kernel
theorem dX11_drift_83 : decode cX11_drift 83 = .ok (.ireturn, 1) := by decide +kernel
theorem dX11_undo_0 : decode cX11_undo 0 = .ok (.iload_n 1, 1) := by decide +kernel
theorem dX11_undo_1 : decode cX11_undo 1 = .ok (.iconst 1, 1) := by decide +kernel
theorem dX11_undo_2 : decode cX11_undo 2 = .ok (.bipush 16, 2) := by decide +kernel
theorem dX11_undo_4 : decode cX11_undo 4 = .ok (.invokestatic 41, 3) := by decide +kernel
theorem dX11_undo_7 : decode cX11_undo 7 = .ok (.ifCond .ne 6, 3) := by decide +kernel
theorem dX11_undo_10 : decode cX11_undo 10 = .ok (.ldc 179, 2) := by decide +kernel
theorem dX11_undo_12 : decode cX11_undo 12 = .ok (.ireturn, 1) := by decide +kernel
theorem dX11_undo_13 : decode cX11_undo 13 = .ok (.iload_n 1, 1) := by decide +kernel
theorem dX11_undo_14 : decode cX11_undo 14 = .ok (.aload_n 0, 1) := by decide +kernel
theorem dX11_undo_15 : decode cX11_undo 15 = .ok (.getfield 173, 3) := by decide +kernel
theorem dX11_undo_18 : decode cX11_undo 18 = .ok (.if_icmp .le 6, 3) := by decide +kernel
theorem dX11_undo_21 : decode cX11_undo 21 = .ok (.ldc 214, 2) := by decide +kernel
theorem dX11_undo_23 : decode cX11_undo 23 = .ok (.ireturn, 1) := by decide +kernel
theorem dX11_undo_24 : decode cX11_undo 24 = .ok (.aload_n 0, 1) := by decide +kernel
theorem dX11_undo_25 : decode cX11_undo 25 = .ok (.dup, 1) := by decide +kernel
theorem dX11_undo_26 : decode cX11_undo 26 = .ok (.getfield 173, 3) := by decide +kernel
theorem dX11_undo_29 : decode cX11_undo 29 = .ok (.iload_n 1, 1) := by decide +kernel
theorem dX11_undo_30 : decode cX11_undo 30 = .ok (.isub, 1) := by decide +kernel
theorem dX11_undo_31 : decode cX11_undo 31 = .ok (.putfield 173, 3) := by decide +kernel
theorem dX11_undo_34 : decode cX11_undo 34 = .ok (.iconst 0, 1) := by decide +kernel
theorem dX11_undo_35 : decode cX11_undo 35 = .ok (.istore_n 2, 1) := by decide +kernel
theorem dX11_undo_36 : decode cX11_undo 36 = .ok (.iload_n 2, 1) := by decide +kernel
theorem dX11_undo_37 : decode cX11_undo 37 = .ok (.sipush 256, 3) := by decide +kernel
theorem dX11_undo_40 : decode cX11_undo 40 = .ok (.if_icmp .ge 30, 3) := by decide +kernel
theorem dX11_undo_43 : decode cX11_undo 43 = .ok (.aload_n 0, 1) := by decide +kernel
theorem dX11_undo_44 : decode cX11_undo 44 = .ok (.getfield 7, 3) := by decide +kernel
theorem dX11_undo_47 : decode cX11_undo 47 = .ok (.iload_n 2, 1) := by decide +kernel
theorem dX11_undo_48 : decode cX11_undo 48 = .ok (.aload_n 0, 1) := by decide +kernel
theorem dX11_undo_49 : decode cX11_undo 49 = .ok (.getfield 13, 3) := by decide +kernel
theorem dX11_undo_52 : decode cX11_undo 52 = .ok (.sipush 256, 3) := by decide +kernel
theorem dX11_undo_55 : decode cX11_undo 55 = .ok (.aload_n 0, 1) := by decide +kernel
theorem dX11_undo_56 : decode cX11_undo 56 = .ok (.getfield 173, 3) := by decide +kernel
theorem dX11_undo_59 : decode cX11_undo 59 = .ok (.imul, 1) := by decide +kernel
theorem dX11_undo_60 : decode cX11_undo 60 = .ok (.iload_n 2, 1) := by decide +kernel
theorem dX11_undo_61 : decode cX11_undo 61 = .ok (.iadd, 1) := by decide +kernel
theorem dX11_undo_62 : decode cX11_undo 62 = .ok (.iaload, 1) := by decide +kernel
theorem dX11_undo_63 : decode cX11_undo 63 = .ok (.iastore, 1) := by decide +kernel
theorem dX11_undo_64 : decode cX11_undo 64 = .ok (.iinc 2 1, 3) := by decide +kernel
theorem dX11_undo_67 : decode cX11_undo 67 = .ok (.goto (-31), 3) := by decide +kernel
theorem dX11_undo_70 : decode cX11_undo 70 = .ok (.aload_n 0, 1) := by decide +kernel
theorem dX11_undo_71 : decode cX11_undo 71 = .ok (.iconst 0, 1) := by decide +kernel
theorem dX11_undo_72 : decode cX11_undo 72 = .ok (.putfield 109, 3) := by decide +kernel
theorem dX11_undo_75 : decode cX11_undo 75 = .ok (.aload_n 0, 1) := by decide +kernel
theorem dX11_undo_76 : decode cX11_undo 76 = .ok (.getfield 173, 3) := by decide +kernel
theorem dX11_undo_79 : decode cX11_undo 79 = .ok (.ireturn, 1) := by decide +kernel
theorem dX11_write_0 : decode cX11_write 0 = .ok (.aload_n 0, 1) := by decide +kernel
theorem dX11_write_1 : decode cX11_write 1 = .ok (.iload_n 1, 1) := by decide +kernel
theorem dX11_write_2 : decode cX11_write 2 = .ok (.invokevirtual 163, 3) := by decide +kernel
theorem dX11_write_5 : decode cX11_write 5 = .ok (.ifCond .ne 6, 3) := by decide +kernel
theorem dX11_write_8 : decode cX11_write 8 = .ok (.ldc 180, 2) := by decide +kernel
theorem dX11_write_10 : decode cX11_write 10 = .ok (.ireturn, 1) := by decide +kernel
theorem dX11_write_11 : decode cX11_write 11 = .ok (.aload_n 0, 1) := by decide +kernel
theorem dX11_write_12 : decode cX11_write 12 = .ok (.getfield 160, 3) := by decide +kernel
theorem dX11_write_15 : decode cX11_write 15 = .ok (.bipush 20, 2) := by decide +kernel
theorem dX11_write_17 : decode cX11_write 17 = .ok (.if_icmp .ne 6, 3) := by decide +kernel
theorem dX11_write_20 : decode cX11_write 20 = .ok (.ldc 197, 2) := by decide +kernel
theorem dX11_write_22 : decode cX11_write 22 = .ok (.ireturn, 1) := by decide +kernel
theorem dX11_write_23 : decode cX11_write 23 = .ok (.aload_n 0, 1) := by decide +kernel
theorem dX11_write_24 : decode cX11_write 24 = .ok (.getfield 23, 3) := by decide +kernel
theorem dX11_write_27 : decode cX11_write 27 = .ok (.aload_n 0, 1) := by decide +kernel
theorem dX11_write_28 : decode cX11_write 28 = .ok (.getfield 160, 3) := by decide +kernel
theorem dX11_write_31 : decode cX11_write 31 = .ok (.iload_n 1, 1) := by decide +kernel
theorem dX11_write_32 : decode cX11_write 32 = .ok (.iastore, 1) := by decide +kernel
theorem dX11_write_33 : decode cX11_write 33 = .ok (.aload_n 0, 1) := by decide +kernel
theorem dX11_write_34 : decode cX11_write 34 = .ok (.getfield 26, 3) := by decide +kernel
theorem dX11_write_37 : decode cX11_write 37 = .ok (.aload_n 0, 1) := by decide +kernel
theorem dX11_write_38 : decode cX11_write 38 = .ok (.getfield 160, 3) := by decide +kernel
theorem dX11_write_41 : decode cX11_write 41 = .ok (.iload_n 2, 1) := by decide +kernel
theorem dX11_write_42 : decode cX11_write 42 = .ok (.iastore, 1) := by decide +kernel
theorem dX11_write_43 : decode cX11_write 43 = .ok (.aload_n 0, 1) := by decide +kernel
theorem dX11_write_44 : decode cX11_write 44 = .ok (.dup, 1) := by decide +kernel
theorem dX11_write_45 : decode cX11_write 45 = .ok (.getfield 160, 3) := by decide +kernel
theorem dX11_write_48 : decode cX11_write 48 = .ok (.iconst 1, 1) := by decide +kernel
theorem dX11_write_49 : decode cX11_write 49 = .ok (.iadd, 1) := by decide +kernel
theorem dX11_write_50 : decode cX11_write 50 = .ok (.putfield 160, 3) := by decide +kernel
theorem dX11_write_53 : decode cX11_write 53 = .ok (.aload_n 0, 1) := by decide +kernel
theorem dX11_write_54 : decode cX11_write 54 = .ok (.getfield 160, 3) := by decide +kernel
theorem dX11_write_57 : decode cX11_write 57 = .ok (.ireturn, 1) := by decide +kernel
theorem dX11_tear_0 : decode cX11_tear 0 = .ok (.aload_n 0, 1) := by decide +kernel
theorem dX11_tear_1 : decode cX11_tear 1 = .ok (.getfield 160, 3) := by decide +kernel
theorem dX11_tear_4 : decode cX11_tear 4 = .ok (.istore_n 1, 1) := by decide +kernel
theorem dX11_tear_5 : decode cX11_tear 5 = .ok (.aload_n 0, 1) := by decide +kernel
theorem dX11_tear_6 : decode cX11_tear 6 = .ok (.iconst 0, 1) := by decide +kernel
theorem dX11_tear_7 : decode cX11_tear 7 = .ok (.putfield 160, 3) := by decide +kernel
theorem dX11_tear_10 : decode cX11_tear 10 = .ok (.iload_n 1, 1) := by decide +kernel
theorem dX11_tear_11 : decode cX11_tear 11 = .ok (.ireturn, 1) := by decide +kernel
theorem dX11_seed_0 : decode cX11_seed 0 = .ok (.iload_n 1, 1) := by decide +kernel
theorem dX11_seed_1 : decode cX11_seed 1 = .ok (.ifCond .ge 6, 3) := by decide +kernel
theorem dX11_seed_4 : decode cX11_seed 4 = .ok (.ldc 179, 2) := by decide +kernel
theorem dX11_seed_6 : decode cX11_seed 6 = .ok (.ireturn, 1) := by decide +kernel
theorem dX11_seed_7 : decode cX11_seed 7 = .ok (.aload_n 0, 1) := by decide +kernel
theorem dX11_seed_8 : decode cX11_seed 8 = .ok (.getfield 176, 3) := by decide +kernel
theorem dX11_seed_11 : decode cX11_seed 11 = .ok (.istore_n 2, 1) := by decide +kernel
theorem dX11_seed_12 : decode cX11_seed 12 = .ok (.aload_n 0, 1) := by decide +kernel
theorem dX11_seed_13 : decode cX11_seed 13 = .ok (.iload_n 1, 1) := by decide +kernel
theorem dX11_seed_14 : decode cX11_seed 14 = .ok (.putfield 176, 3) := by decide +kernel
theorem dX11_seed_17 : decode cX11_seed 17 = .ok (.iload_n 2, 1) := by decide +kernel
theorem dX11_seed_18 : decode cX11_seed 18 = .ok (.ireturn, 1) := by decide +kernel
theorem dX11_keep_0 : decode cX11_keep 0 = .ok (.iload_n 1, 1) := by decide +kernel
theorem dX11_keep_1 : decode cX11_keep 1 = .ok (.iconst 0, 1) := by decide +kernel
theorem dX11_keep_2 : decode cX11_keep 2 = .ok (.iconst 1, 1) := by decide +kernel
theorem dX11_keep_3 : decode cX11_keep 3 = .ok (.invokestatic 41, 3) := by decide +kernel
theorem dX11_keep_6 : decode cX11_keep 6 = .ok (.ifCond .ne 6, 3) := by decide +kernel
theorem dX11_keep_9 : decode cX11_keep 9 = .ok (.ldc 180, 2) := by decide +kernel
theorem dX11_keep_11 : decode cX11_keep 11 = .ok (.ireturn, 1) := by decide +kernel
theorem dX11_keep_12 : decode cX11_keep 12 = .ok (.iconst 0, 1) := by decide +kernel
theorem dX11_keep_13 : decode cX11_keep 13 = .ok (.istore_n 2, 1) := by decide +kernel
theorem dX11_keep_14 : decode cX11_keep 14 = .ok (.iload_n 2, 1) := by decide +kernel
theorem dX11_keep_15 : decode cX11_keep 15 = .ok (.sipush 256, 3) := by decide +kernel
theorem dX11_keep_18 : decode cX11_keep 18 = .ok (.if_icmp .ge 27, 3) := by decide +kernel
theorem dX11_keep_21 : decode cX11_keep 21 = .ok (.aload_n 0, 1) := by decide +kernel
theorem dX11_keep_22 : decode cX11_keep 22 = .ok (.getfield 16, 3) := by decide +kernel
theorem dX11_keep_25 : decode cX11_keep 25 = .ok (.sipush 257, 3) := by decide +kernel
theorem dX11_keep_28 : decode cX11_keep 28 = .ok (.iload_n 1, 1) := by decide +kernel
theorem dX11_keep_29 : decode cX11_keep 29 = .ok (.imul, 1) := by decide +kernel
theorem dX11_keep_30 : decode cX11_keep 30 = .ok (.iload_n 2, 1) := by decide +kernel
theorem dX11_keep_31 : decode cX11_keep 31 = .ok (.iadd, 1) := by decide +kernel
theorem dX11_keep_32 : decode cX11_keep 32 = .ok (.aload_n 0, 1) := by decide +kernel
theorem dX11_keep_33 : decode cX11_keep 33 = .ok (.getfield 7, 3) := by decide +kernel
theorem dX11_keep_36 : decode cX11_keep 36 = .ok (.iload_n 2, 1) := by decide +kernel
theorem dX11_keep_37 : decode cX11_keep 37 = .ok (.iaload, 1) := by decide +kernel
theorem dX11_keep_38 : decode cX11_keep 38 = .ok (.iastore, 1) := by decide +kernel
theorem dX11_keep_39 : decode cX11_keep 39 = .ok (.iinc 2 1, 3) := by decide +kernel
theorem dX11_keep_42 : decode cX11_keep 42 = .ok (.goto (-28), 3) := by decide +kernel
theorem dX11_keep_45 : decode cX11_keep 45 = .ok (.aload_n 0, 1) := by decide +kernel
theorem dX11_keep_46 : decode cX11_keep 46 = .ok (.getfield 16, 3) := by decide +kernel
theorem dX11_keep_49 : decode cX11_keep 49 = .ok (.sipush 257, 3) := by decide +kernel
theorem dX11_keep_52 : decode cX11_keep 52 = .ok (.iload_n 1, 1) := by decide +kernel
theorem dX11_keep_53 : decode cX11_keep 53 = .ok (.imul, 1) := by decide +kernel
theorem dX11_keep_54 : decode cX11_keep 54 = .ok (.sipush 256, 3) := by decide +kernel
theorem dX11_keep_57 : decode cX11_keep 57 = .ok (.iadd, 1) := by decide +kernel
theorem dX11_keep_58 : decode cX11_keep 58 = .ok (.aload_n 0, 1) := by decide +kernel
theorem dX11_keep_59 : decode cX11_keep 59 = .ok (.getfield 176, 3) := by decide +kernel
theorem dX11_keep_62 : decode cX11_keep 62 = .ok (.iastore, 1) := by decide +kernel
theorem dX11_keep_63 : decode cX11_keep 63 = .ok (.aload_n 0, 1) := by decide +kernel
theorem dX11_keep_64 : decode cX11_keep 64 = .ok (.getfield 19, 3) := by decide +kernel
theorem dX11_keep_67 : decode cX11_keep 67 = .ok (.iload_n 1, 1) := by decide +kernel
theorem dX11_keep_68 : decode cX11_keep 68 = .ok (.iconst 1, 1) := by decide +kernel
theorem dX11_keep_69 : decode cX11_keep 69 = .ok (.bastore, 1) := by decide +kernel
theorem dX11_keep_70 : decode cX11_keep 70 = .ok (.aload_n 0, 1) := by decide +kernel
theorem dX11_keep_71 : decode cX11_keep 71 = .ok (.iconst 0, 1) := by decide +kernel
theorem dX11_keep_72 : decode cX11_keep 72 = .ok (.putfield 173, 3) := by decide +kernel
theorem dX11_keep_75 : decode cX11_keep 75 = .ok (.iconst 1, 1) := by decide +kernel
theorem dX11_keep_76 : decode cX11_keep 76 = .ok (.ireturn, 1) := by decide +kernel
theorem dX11_goBack_0 : decode cX11_goBack 0 = .ok (.iload_n 1, 1) := by decide +kernel
theorem dX11_goBack_1 : decode cX11_goBack 1 = .ok (.iconst 0, 1) := by decide +kernel
theorem dX11_goBack_2 : decode cX11_goBack 2 = .ok (.iconst 1, 1) := by decide +kernel
theorem dX11_goBack_3 : decode cX11_goBack 3 = .ok (.invokestatic 41, 3) := by decide +kernel
theorem dX11_goBack_6 : decode cX11_goBack 6 = .ok (.ifCond .ne 6, 3) := by decide +kernel
theorem dX11_goBack_9 : decode cX11_goBack 9 = .ok (.ldc 180, 2) := by decide +kernel
theorem dX11_goBack_11 : decode cX11_goBack 11 = .ok (.ireturn, 1) := by decide +kernel
theorem dX11_goBack_12 : decode cX11_goBack 12 = .ok (.aload_n 0, 1) := by decide +kernel
theorem dX11_goBack_13 : decode cX11_goBack 13 = .ok (.getfield 19, 3) := by decide +kernel
theorem dX11_goBack_16 : decode cX11_goBack 16 = .ok (.iload_n 1, 1) := by decide +kernel
theorem dX11_goBack_17 : decode cX11_goBack 17 = .ok (.baload, 1) := by decide +kernel
theorem dX11_goBack_18 : decode cX11_goBack 18 = .ok (.ifCond .ne 6, 3) := by decide +kernel
theorem dX11_goBack_21 : decode cX11_goBack 21 = .ok (.ldc 214, 2) := by decide +kernel
theorem dX11_goBack_23 : decode cX11_goBack 23 = .ok (.ireturn, 1) := by decide +kernel
theorem dX11_goBack_24 : decode cX11_goBack 24 = .ok (.iconst 0, 1) := by decide +kernel
theorem dX11_goBack_25 : decode cX11_goBack 25 = .ok (.istore_n 2, 1) := by decide +kernel
theorem dX11_goBack_26 : decode cX11_goBack 26 = .ok (.iload_n 2, 1) := by decide +kernel
theorem dX11_goBack_27 : decode cX11_goBack 27 = .ok (.sipush 256, 3) := by decide +kernel
theorem dX11_goBack_30 : decode cX11_goBack 30 = .ok (.if_icmp .ge 27, 3) := by decide +kernel
theorem dX11_goBack_33 : decode cX11_goBack 33 = .ok (.aload_n 0, 1) := by decide +kernel
theorem dX11_goBack_34 : decode cX11_goBack 34 = .ok (.getfield 7, 3) := by decide +kernel
theorem dX11_goBack_37 : decode cX11_goBack 37 = .ok (.iload_n 2, 1) := by decide +kernel
theorem dX11_goBack_38 : decode cX11_goBack 38 = .ok (.aload_n 0, 1) := by decide +kernel
theorem dX11_goBack_39 : decode cX11_goBack 39 = .ok (.getfield 16, 3) := by decide +kernel
theorem dX11_goBack_42 : decode cX11_goBack 42 = .ok (.sipush 257, 3) := by decide +kernel
theorem dX11_goBack_45 : decode cX11_goBack 45 = .ok (.iload_n 1, 1) := by decide +kernel
theorem dX11_goBack_46 : decode cX11_goBack 46 = .ok (.imul, 1) := by decide +kernel
theorem dX11_goBack_47 : decode cX11_goBack 47 = .ok (.iload_n 2, 1) := by decide +kernel
theorem dX11_goBack_48 : decode cX11_goBack 48 = .ok (.iadd, 1) := by decide +kernel
theorem dX11_goBack_49 : decode cX11_goBack 49 = .ok (.iaload, 1) := by decide +kernel
theorem dX11_goBack_50 : decode cX11_goBack 50 = .ok (.iastore, 1) := by decide +kernel
theorem dX11_goBack_51 : decode cX11_goBack 51 = .ok (.iinc 2 1, 3) := by decide +kernel
theorem dX11_goBack_54 : decode cX11_goBack 54 = .ok (.goto (-28), 3) := by decide +kernel
theorem dX11_goBack_57 : decode cX11_goBack 57 = .ok (.aload_n 0, 1) := by decide +kernel
theorem dX11_goBack_58 : decode cX11_goBack 58 = .ok (.aload_n 0, 1) := by decide +kernel
theorem dX11_goBack_59 : decode cX11_goBack 59 = .ok (.getfield 16, 3) := by decide +kernel
theorem dX11_goBack_62 : decode cX11_goBack 62 = .ok (.sipush 257, 3) := by decide +kernel
theorem dX11_goBack_65 : decode cX11_goBack 65 = .ok (.iload_n 1, 1) := by decide +kernel
theorem dX11_goBack_66 : decode cX11_goBack 66 = .ok (.imul, 1) := by decide +kernel
theorem dX11_goBack_67 : decode cX11_goBack 67 = .ok (.sipush 256, 3) := by decide +kernel
theorem dX11_goBack_70 : decode cX11_goBack 70 = .ok (.iadd, 1) := by decide +kernel
theorem dX11_goBack_71 : decode cX11_goBack 71 = .ok (.iaload, 1) := by decide +kernel
theorem dX11_goBack_72 : decode cX11_goBack 72 = .ok (.putfield 176, 3) := by decide +kernel
theorem dX11_goBack_75 : decode cX11_goBack 75 = .ok (.aload_n 0, 1) := by decide +kernel
theorem dX11_goBack_76 : decode cX11_goBack 76 = .ok (.iconst 0, 1) := by decide +kernel
theorem dX11_goBack_77 : decode cX11_goBack 77 = .ok (.putfield 173, 3) := by decide +kernel
theorem dX11_goBack_80 : decode cX11_goBack 80 = .ok (.aload_n 0, 1) := by decide +kernel
theorem dX11_goBack_81 : decode cX11_goBack 81 = .ok (.iconst 0, 1) := by decide +kernel
theorem dX11_goBack_82 : decode cX11_goBack 82 = .ok (.putfield 109, 3) := by decide +kernel
theorem dX11_goBack_85 : decode cX11_goBack 85 = .ok (.iconst 1, 1) := by decide +kernel
theorem dX11_goBack_86 : decode cX11_goBack 86 = .ok (.ireturn, 1) := by decide +kernel
end
section
theorem dL_law_0 : decode cL_law 0 = .ok (.new 7, 3) := by decide +kernel
theorem dL_law_3 : decode cL_law 3 = .ok (.dup, 1) := by decide +kernel
theorem dL_law_4 : decode cL_law 4 = .ok (.invokespecial 9, 3) := by decide +kernel
theorem dL_law_7 : decode cL_law 7 = .ok (.astore_n 1, 1) := by decide +kernel
theorem dL_law_8 : decode cL_law 8 = .ok (.new 10, 3) := by decide +kernel
theorem dL_law_11 : decode cL_law 11 = .ok (.dup, 1) := by decide +kernel
theorem dL_law_12 : decode cL_law 12 = .ok (.invokespecial 12, 3) := by decide +kernel
theorem dL_law_15 : decode cL_law 15 = .ok (.astore_n 2, 1) := by decide +kernel
theorem dL_law_16 : decode cL_law 16 = .ok (.iconst 0, 1) := by decide +kernel
theorem dL_law_17 : decode cL_law 17 = .ok (.istore_n 3, 1) := by decide +kernel
theorem dL_law_18 : decode cL_law 18 = .ok (.iload_n 3, 1) := by decide +kernel
theorem dL_law_19 : decode cL_law 19 = .ok (.aload_n 0, 1) := by decide +kernel
theorem dL_law_20 : decode cL_law 20 = .ok (.arraylength, 1) := by decide +kernel
theorem dL_law_21 : decode cL_law 21 = .ok (.bipush 8, 2) := by decide +kernel
theorem dL_law_23 : decode cL_law 23 = .ok (.isub, 1) := by decide +kernel
theorem dL_law_24 : decode cL_law 24 = .ok (.if_icmp .gt 892, 3) := by decide +kernel
theorem dL_law_27 : decode cL_law 27 = .ok (.aload_n 0, 1) := by decide +kernel
theorem dL_law_28 : decode cL_law 28 = .ok (.iload_n 3, 1) := by decide +kernel
theorem dL_law_29 : decode cL_law 29 = .ok (.iaload, 1) := by decide +kernel
theorem dL_law_30 : decode cL_law 30 = .ok (.bipush 31, 2) := by decide +kernel
theorem dL_law_32 : decode cL_law 32 = .ok (.iand, 1) := by decide +kernel
theorem dL_law_33 : decode cL_law 33 = .ok (.tableswitch 877 0 23 #[111, 134, 167, 200, 233, 266, 299, 352, 415, 438, 461, 548, 571, 594, 647, 670, 703, 716, 739, 762, 795, 808, 831, 854], 111) := by decide +kernel
theorem dL_law_144 : decode cL_law 144 = .ok (.aload_n 1, 1) := by decide +kernel
theorem dL_law_145 : decode cL_law 145 = .ok (.aload_n 0, 1) := by decide +kernel
theorem dL_law_146 : decode cL_law 146 = .ok (.iload_n 3, 1) := by decide +kernel
theorem dL_law_147 : decode cL_law 147 = .ok (.iconst 1, 1) := by decide +kernel
theorem dL_law_148 : decode cL_law 148 = .ok (.iadd, 1) := by decide +kernel
theorem dL_law_149 : decode cL_law 149 = .ok (.iaload, 1) := by decide +kernel
theorem dL_law_150 : decode cL_law 150 = .ok (.invokevirtual 13, 3) := by decide +kernel
theorem dL_law_153 : decode cL_law 153 = .ok (.aload_n 2, 1) := by decide +kernel
theorem dL_law_154 : decode cL_law 154 = .ok (.aload_n 0, 1) := by decide +kernel
theorem dL_law_155 : decode cL_law 155 = .ok (.iload_n 3, 1) := by decide +kernel
theorem dL_law_156 : decode cL_law 156 = .ok (.iconst 1, 1) := by decide +kernel
theorem dL_law_157 : decode cL_law 157 = .ok (.iadd, 1) := by decide +kernel
theorem dL_law_158 : decode cL_law 158 = .ok (.iaload, 1) := by decide +kernel
theorem dL_law_159 : decode cL_law 159 = .ok (.invokevirtual 17, 3) := by decide +kernel
theorem dL_law_162 : decode cL_law 162 = .ok (.if_icmp .eq 748, 3) := by decide +kernel
theorem dL_law_165 : decode cL_law 165 = .ok (.iconst 0, 1) := by decide +kernel
theorem dL_law_166 : decode cL_law 166 = .ok (.ireturn, 1) := by decide +kernel
theorem dL_law_167 : decode cL_law 167 = .ok (.aload_n 1, 1) := by decide +kernel
theorem dL_law_168 : decode cL_law 168 = .ok (.aload_n 0, 1) := by decide +kernel
theorem dL_law_169 : decode cL_law 169 = .ok (.iload_n 3, 1) := by decide +kernel
theorem dL_law_170 : decode cL_law 170 = .ok (.iconst 1, 1) := by decide +kernel
theorem dL_law_171 : decode cL_law 171 = .ok (.iadd, 1) := by decide +kernel
theorem dL_law_172 : decode cL_law 172 = .ok (.iaload, 1) := by decide +kernel
theorem dL_law_173 : decode cL_law 173 = .ok (.aload_n 0, 1) := by decide +kernel
theorem dL_law_174 : decode cL_law 174 = .ok (.iload_n 3, 1) := by decide +kernel
theorem dL_law_175 : decode cL_law 175 = .ok (.iconst 2, 1) := by decide +kernel
theorem dL_law_176 : decode cL_law 176 = .ok (.iadd, 1) := by decide +kernel
theorem dL_law_177 : decode cL_law 177 = .ok (.iaload, 1) := by decide +kernel
theorem dL_law_178 : decode cL_law 178 = .ok (.invokevirtual 18, 3) := by decide +kernel
theorem dL_law_181 : decode cL_law 181 = .ok (.aload_n 2, 1) := by decide +kernel
theorem dL_law_182 : decode cL_law 182 = .ok (.aload_n 0, 1) := by decide +kernel
theorem dL_law_183 : decode cL_law 183 = .ok (.iload_n 3, 1) := by decide +kernel
theorem dL_law_184 : decode cL_law 184 = .ok (.iconst 1, 1) := by decide +kernel
theorem dL_law_185 : decode cL_law 185 = .ok (.iadd, 1) := by decide +kernel
theorem dL_law_186 : decode cL_law 186 = .ok (.iaload, 1) := by decide +kernel
theorem dL_law_187 : decode cL_law 187 = .ok (.aload_n 0, 1) := by decide +kernel
theorem dL_law_188 : decode cL_law 188 = .ok (.iload_n 3, 1) := by decide +kernel
theorem dL_law_189 : decode cL_law 189 = .ok (.iconst 2, 1) := by decide +kernel
theorem dL_law_190 : decode cL_law 190 = .ok (.iadd, 1) := by decide +kernel
theorem dL_law_191 : decode cL_law 191 = .ok (.iaload, 1) := by decide +kernel
theorem dL_law_192 : decode cL_law 192 = .ok (.invokevirtual 22, 3) := by decide +kernel
theorem dL_law_195 : decode cL_law 195 = .ok (.if_icmp .eq 715, 3) := by decide +kernel
theorem dL_law_198 : decode cL_law 198 = .ok (.iconst 0, 1) := by decide +kernel
theorem dL_law_199 : decode cL_law 199 = .ok (.ireturn, 1) := by decide +kernel
theorem dL_law_200 : decode cL_law 200 = .ok (.aload_n 1, 1) := by decide +kernel
theorem dL_law_201 : decode cL_law 201 = .ok (.aload_n 0, 1) := by decide +kernel
theorem dL_law_202 : decode cL_law 202 = .ok (.iload_n 3, 1) := by decide +kernel
theorem dL_law_203 : decode cL_law 203 = .ok (.iconst 1, 1) := by decide +kernel
theorem dL_law_204 : decode cL_law 204 = .ok (.iadd, 1) := by decide +kernel
theorem dL_law_205 : decode cL_law 205 = .ok (.iaload, 1) := by decide +kernel
theorem dL_law_206 : decode cL_law 206 = .ok (.aload_n 0, 1) := by decide +kernel
theorem dL_law_207 : decode cL_law 207 = .ok (.iload_n 3, 1) := by decide +kernel
theorem dL_law_208 : decode cL_law 208 = .ok (.iconst 2, 1) := by decide +kernel
theorem dL_law_209 : decode cL_law 209 = .ok (.iadd, 1) := by decide +kernel
theorem dL_law_210 : decode cL_law 210 = .ok (.iaload, 1) := by decide +kernel
theorem dL_law_211 : decode cL_law 211 = .ok (.invokevirtual 23, 3) := by decide +kernel
theorem dL_law_214 : decode cL_law 214 = .ok (.aload_n 2, 1) := by decide +kernel
theorem dL_law_215 : decode cL_law 215 = .ok (.aload_n 0, 1) := by decide +kernel
theorem dL_law_216 : decode cL_law 216 = .ok (.iload_n 3, 1) := by decide +kernel
theorem dL_law_217 : decode cL_law 217 = .ok (.iconst 1, 1) := by decide +kernel
theorem dL_law_218 : decode cL_law 218 = .ok (.iadd, 1) := by decide +kernel
theorem dL_law_219 : decode cL_law 219 = .ok (.iaload, 1) := by decide +kernel
theorem dL_law_220 : decode cL_law 220 = .ok (.aload_n 0, 1) := by decide +kernel
theorem dL_law_221 : decode cL_law 221 = .ok (.iload_n 3, 1) := by decide +kernel
theorem dL_law_222 : decode cL_law 222 = .ok (.iconst 2, 1) := by decide +kernel
theorem dL_law_223 : decode cL_law 223 = .ok (.iadd, 1) := by decide +kernel
theorem dL_law_224 : decode cL_law 224 = .ok (.iaload, 1) := by decide +kernel
theorem dL_law_225 : decode cL_law 225 = .ok (.invokevirtual 26, 3) := by decide +kernel
theorem dL_law_228 : decode cL_law 228 = .ok (.if_icmp .eq 682, 3) := by decide +kernel
theorem dL_law_231 : decode cL_law 231 = .ok (.iconst 0, 1) := by decide +kernel
theorem dL_law_232 : decode cL_law 232 = .ok (.ireturn, 1) := by decide +kernel
theorem dL_law_233 : decode cL_law 233 = .ok (.aload_n 1, 1) := by decide +kernel
theorem dL_law_234 : decode cL_law 234 = .ok (.aload_n 0, 1) := by decide +kernel
theorem dL_law_235 : decode cL_law 235 = .ok (.iload_n 3, 1) := by decide +kernel
theorem dL_law_236 : decode cL_law 236 = .ok (.iconst 1, 1) := by decide +kernel
theorem dL_law_237 : decode cL_law 237 = .ok (.iadd, 1) := by decide +kernel
theorem dL_law_238 : decode cL_law 238 = .ok (.iaload, 1) := by decide +kernel
theorem dL_law_239 : decode cL_law 239 = .ok (.aload_n 0, 1) := by decide +kernel
theorem dL_law_240 : decode cL_law 240 = .ok (.iload_n 3, 1) := by decide +kernel
theorem dL_law_241 : decode cL_law 241 = .ok (.iconst 2, 1) := by decide +kernel
theorem dL_law_242 : decode cL_law 242 = .ok (.iadd, 1) := by decide +kernel
theorem dL_law_243 : decode cL_law 243 = .ok (.iaload, 1) := by decide +kernel
theorem dL_law_244 : decode cL_law 244 = .ok (.invokevirtual 27, 3) := by decide +kernel
theorem dL_law_247 : decode cL_law 247 = .ok (.aload_n 2, 1) := by decide +kernel
theorem dL_law_248 : decode cL_law 248 = .ok (.aload_n 0, 1) := by decide +kernel
theorem dL_law_249 : decode cL_law 249 = .ok (.iload_n 3, 1) := by decide +kernel
theorem dL_law_250 : decode cL_law 250 = .ok (.iconst 1, 1) := by decide +kernel
theorem dL_law_251 : decode cL_law 251 = .ok (.iadd, 1) := by decide +kernel
theorem dL_law_252 : decode cL_law 252 = .ok (.iaload, 1) := by decide +kernel
theorem dL_law_253 : decode cL_law 253 = .ok (.aload_n 0, 1) := by decide +kernel
theorem dL_law_254 : decode cL_law 254 = .ok (.iload_n 3, 1) := by decide +kernel
theorem dL_law_255 : decode cL_law 255 = .ok (.iconst 2, 1) := by decide +kernel
theorem dL_law_256 : decode cL_law 256 = .ok (.iadd, 1) := by decide +kernel
theorem dL_law_257 : decode cL_law 257 = .ok (.iaload, 1) := by decide +kernel
theorem dL_law_258 : decode cL_law 258 = .ok (.invokevirtual 30, 3) := by decide +kernel
theorem dL_law_261 : decode cL_law 261 = .ok (.if_icmp .eq 649, 3) := by decide +kernel
theorem dL_law_264 : decode cL_law 264 = .ok (.iconst 0, 1) := by decide +kernel
theorem dL_law_265 : decode cL_law 265 = .ok (.ireturn, 1) := by decide +kernel
theorem dL_law_266 : decode cL_law 266 = .ok (.aload_n 1, 1) := by decide +kernel
theorem dL_law_267 : decode cL_law 267 = .ok (.aload_n 0, 1) := by decide +kernel
theorem dL_law_268 : decode cL_law 268 = .ok (.iload_n 3, 1) := by decide +kernel
theorem dL_law_269 : decode cL_law 269 = .ok (.iconst 1, 1) := by decide +kernel
theorem dL_law_270 : decode cL_law 270 = .ok (.iadd, 1) := by decide +kernel
theorem dL_law_271 : decode cL_law 271 = .ok (.iaload, 1) := by decide +kernel
theorem dL_law_272 : decode cL_law 272 = .ok (.aload_n 0, 1) := by decide +kernel
theorem dL_law_273 : decode cL_law 273 = .ok (.iload_n 3, 1) := by decide +kernel
theorem dL_law_274 : decode cL_law 274 = .ok (.iconst 2, 1) := by decide +kernel
theorem dL_law_275 : decode cL_law 275 = .ok (.iadd, 1) := by decide +kernel
theorem dL_law_276 : decode cL_law 276 = .ok (.iaload, 1) := by decide +kernel
theorem dL_law_277 : decode cL_law 277 = .ok (.invokevirtual 31, 3) := by decide +kernel
theorem dL_law_280 : decode cL_law 280 = .ok (.aload_n 2, 1) := by decide +kernel
theorem dL_law_281 : decode cL_law 281 = .ok (.aload_n 0, 1) := by decide +kernel
theorem dL_law_282 : decode cL_law 282 = .ok (.iload_n 3, 1) := by decide +kernel
theorem dL_law_283 : decode cL_law 283 = .ok (.iconst 1, 1) := by decide +kernel
theorem dL_law_284 : decode cL_law 284 = .ok (.iadd, 1) := by decide +kernel
theorem dL_law_285 : decode cL_law 285 = .ok (.iaload, 1) := by decide +kernel
theorem dL_law_286 : decode cL_law 286 = .ok (.aload_n 0, 1) := by decide +kernel
theorem dL_law_287 : decode cL_law 287 = .ok (.iload_n 3, 1) := by decide +kernel
theorem dL_law_288 : decode cL_law 288 = .ok (.iconst 2, 1) := by decide +kernel
theorem dL_law_289 : decode cL_law 289 = .ok (.iadd, 1) := by decide +kernel
theorem dL_law_290 : decode cL_law 290 = .ok (.iaload, 1) := by decide +kernel
theorem dL_law_291 : decode cL_law 291 = .ok (.invokevirtual 34, 3) := by decide +kernel
theorem dL_law_294 : decode cL_law 294 = .ok (.if_icmp .eq 616, 3) := by decide +kernel
theorem dL_law_297 : decode cL_law 297 = .ok (.iconst 0, 1) := by decide +kernel
theorem dL_law_298 : decode cL_law 298 = .ok (.ireturn, 1) := by decide +kernel
theorem dL_law_299 : decode cL_law 299 = .ok (.aload_n 1, 1) := by decide +kernel
theorem dL_law_300 : decode cL_law 300 = .ok (.aload_n 0, 1) := by decide +kernel
theorem dL_law_301 : decode cL_law 301 = .ok (.iload_n 3, 1) := by decide +kernel
theorem dL_law_302 : decode cL_law 302 = .ok (.iconst 1, 1) := by decide +kernel
theorem dL_law_303 : decode cL_law 303 = .ok (.iadd, 1) := by decide +kernel
theorem dL_law_304 : decode cL_law 304 = .ok (.iaload, 1) := by decide +kernel
theorem dL_law_305 : decode cL_law 305 = .ok (.aload_n 0, 1) := by decide +kernel
theorem dL_law_306 : decode cL_law 306 = .ok (.iload_n 3, 1) := by decide +kernel
theorem dL_law_307 : decode cL_law 307 = .ok (.iconst 2, 1) := by decide +kernel
theorem dL_law_308 : decode cL_law 308 = .ok (.iadd, 1) := by decide +kernel
theorem dL_law_309 : decode cL_law 309 = .ok (.iaload, 1) := by decide +kernel
theorem dL_law_310 : decode cL_law 310 = .ok (.invokevirtual 35, 3) := by decide +kernel
theorem dL_law_313 : decode cL_law 313 = .ok (.aload_n 2, 1) := by decide +kernel
theorem dL_law_314 : decode cL_law 314 = .ok (.aload_n 0, 1) := by decide +kernel
theorem dL_law_315 : decode cL_law 315 = .ok (.iload_n 3, 1) := by decide +kernel
theorem dL_law_316 : decode cL_law 316 = .ok (.iconst 1, 1) := by decide +kernel
theorem dL_law_317 : decode cL_law 317 = .ok (.iadd, 1) := by decide +kernel
theorem dL_law_318 : decode cL_law 318 = .ok (.iaload, 1) := by decide +kernel
theorem dL_law_319 : decode cL_law 319 = .ok (.aload_n 0, 1) := by decide +kernel
theorem dL_law_320 : decode cL_law 320 = .ok (.iload_n 3, 1) := by decide +kernel
theorem dL_law_321 : decode cL_law 321 = .ok (.iconst 2, 1) := by decide +kernel
theorem dL_law_322 : decode cL_law 322 = .ok (.iadd, 1) := by decide +kernel
theorem dL_law_323 : decode cL_law 323 = .ok (.iaload, 1) := by decide +kernel
theorem dL_law_324 : decode cL_law 324 = .ok (.invokevirtual 38, 3) := by decide +kernel
theorem dL_law_327 : decode cL_law 327 = .ok (.if_icmp .eq 583, 3) := by decide +kernel
theorem dL_law_330 : decode cL_law 330 = .ok (.iconst 0, 1) := by decide +kernel
theorem dL_law_331 : decode cL_law 331 = .ok (.ireturn, 1) := by decide +kernel
theorem dL_law_332 : decode cL_law 332 = .ok (.aload_n 1, 1) := by decide +kernel
theorem dL_law_333 : decode cL_law 333 = .ok (.aload_n 0, 1) := by decide +kernel
theorem dL_law_334 : decode cL_law 334 = .ok (.iload_n 3, 1) := by decide +kernel
theorem dL_law_335 : decode cL_law 335 = .ok (.iconst 1, 1) := by decide +kernel
theorem dL_law_336 : decode cL_law 336 = .ok (.iadd, 1) := by decide +kernel
theorem dL_law_337 : decode cL_law 337 = .ok (.iaload, 1) := by decide +kernel
theorem dL_law_338 : decode cL_law 338 = .ok (.aload_n 0, 1) := by decide +kernel
theorem dL_law_339 : decode cL_law 339 = .ok (.iload_n 3, 1) := by decide +kernel
theorem dL_law_340 : decode cL_law 340 = .ok (.iconst 2, 1) := by decide +kernel
theorem dL_law_341 : decode cL_law 341 = .ok (.iadd, 1) := by decide +kernel
theorem dL_law_342 : decode cL_law 342 = .ok (.iaload, 1) := by decide +kernel
theorem dL_law_343 : decode cL_law 343 = .ok (.aload_n 0, 1) := by decide +kernel
theorem dL_law_344 : decode cL_law 344 = .ok (.iload_n 3, 1) := by decide +kernel
theorem dL_law_345 : decode cL_law 345 = .ok (.iconst 3, 1) := by decide +kernel
theorem dL_law_346 : decode cL_law 346 = .ok (.iadd, 1) := by decide +kernel
theorem dL_law_347 : decode cL_law 347 = .ok (.iaload, 1) := by decide +kernel
theorem dL_law_348 : decode cL_law 348 = .ok (.aload_n 0, 1) := by decide +kernel
theorem dL_law_349 : decode cL_law 349 = .ok (.iload_n 3, 1) := by decide +kernel
theorem dL_law_350 : decode cL_law 350 = .ok (.iconst 4, 1) := by decide +kernel
theorem dL_law_351 : decode cL_law 351 = .ok (.iadd, 1) := by decide +kernel
theorem dL_law_352 : decode cL_law 352 = .ok (.iaload, 1) := by decide +kernel
theorem dL_law_353 : decode cL_law 353 = .ok (.invokevirtual 39, 3) := by decide +kernel
theorem dL_law_356 : decode cL_law 356 = .ok (.aload_n 2, 1) := by decide +kernel
theorem dL_law_357 : decode cL_law 357 = .ok (.aload_n 0, 1) := by decide +kernel
theorem dL_law_358 : decode cL_law 358 = .ok (.iload_n 3, 1) := by decide +kernel
theorem dL_law_359 : decode cL_law 359 = .ok (.iconst 1, 1) := by decide +kernel
theorem dL_law_360 : decode cL_law 360 = .ok (.iadd, 1) := by decide +kernel
theorem dL_law_361 : decode cL_law 361 = .ok (.iaload, 1) := by decide +kernel
theorem dL_law_362 : decode cL_law 362 = .ok (.aload_n 0, 1) := by decide +kernel
theorem dL_law_363 : decode cL_law 363 = .ok (.iload_n 3, 1) := by decide +kernel
theorem dL_law_364 : decode cL_law 364 = .ok (.iconst 2, 1) := by decide +kernel
theorem dL_law_365 : decode cL_law 365 = .ok (.iadd, 1) := by decide +kernel
theorem dL_law_366 : decode cL_law 366 = .ok (.iaload, 1) := by decide +kernel
theorem dL_law_367 : decode cL_law 367 = .ok (.aload_n 0, 1) := by decide +kernel
theorem dL_law_368 : decode cL_law 368 = .ok (.iload_n 3, 1) := by decide +kernel
theorem dL_law_369 : decode cL_law 369 = .ok (.iconst 3, 1) := by decide +kernel
theorem dL_law_370 : decode cL_law 370 = .ok (.iadd, 1) := by decide +kernel
theorem dL_law_371 : decode cL_law 371 = .ok (.iaload, 1) := by decide +kernel
theorem dL_law_372 : decode cL_law 372 = .ok (.aload_n 0, 1) := by decide +kernel
theorem dL_law_373 : decode cL_law 373 = .ok (.iload_n 3, 1) := by decide +kernel
theorem dL_law_374 : decode cL_law 374 = .ok (.iconst 4, 1) := by decide +kernel
theorem dL_law_375 : decode cL_law 375 = .ok (.iadd, 1) := by decide +kernel
theorem dL_law_376 : decode cL_law 376 = .ok (.iaload, 1) := by decide +kernel
theorem dL_law_377 : decode cL_law 377 = .ok (.invokevirtual 43, 3) := by decide +kernel
theorem dL_law_380 : decode cL_law 380 = .ok (.if_icmp .eq 530, 3) := by decide +kernel
theorem dL_law_383 : decode cL_law 383 = .ok (.iconst 0, 1) := by decide +kernel
theorem dL_law_384 : decode cL_law 384 = .ok (.ireturn, 1) := by decide +kernel
theorem dL_law_385 : decode cL_law 385 = .ok (.aload_n 1, 1) := by decide +kernel
theorem dL_law_386 : decode cL_law 386 = .ok (.aload_n 0, 1) := by decide +kernel
theorem dL_law_387 : decode cL_law 387 = .ok (.iload_n 3, 1) := by decide +kernel
theorem dL_law_388 : decode cL_law 388 = .ok (.iconst 1, 1) := by decide +kernel
theorem dL_law_389 : decode cL_law 389 = .ok (.iadd, 1) := by decide +kernel
theorem dL_law_390 : decode cL_law 390 = .ok (.iaload, 1) := by decide +kernel
theorem dL_law_391 : decode cL_law 391 = .ok (.aload_n 0, 1) := by decide +kernel
theorem dL_law_392 : decode cL_law 392 = .ok (.iload_n 3, 1) := by decide +kernel
theorem dL_law_393 : decode cL_law 393 = .ok (.iconst 2, 1) := by decide +kernel
theorem dL_law_394 : decode cL_law 394 = .ok (.iadd, 1) := by decide +kernel
theorem dL_law_395 : decode cL_law 395 = .ok (.iaload, 1) := by decide +kernel
theorem dL_law_396 : decode cL_law 396 = .ok (.aload_n 0, 1) := by decide +kernel
theorem dL_law_397 : decode cL_law 397 = .ok (.iload_n 3, 1) := by decide +kernel
theorem dL_law_398 : decode cL_law 398 = .ok (.iconst 3, 1) := by decide +kernel
theorem dL_law_399 : decode cL_law 399 = .ok (.iadd, 1) := by decide +kernel
theorem dL_law_400 : decode cL_law 400 = .ok (.iaload, 1) := by decide +kernel
theorem dL_law_401 : decode cL_law 401 = .ok (.aload_n 0, 1) := by decide +kernel
theorem dL_law_402 : decode cL_law 402 = .ok (.iload_n 3, 1) := by decide +kernel
theorem dL_law_403 : decode cL_law 403 = .ok (.iconst 4, 1) := by decide +kernel
theorem dL_law_404 : decode cL_law 404 = .ok (.iadd, 1) := by decide +kernel
theorem dL_law_405 : decode cL_law 405 = .ok (.iaload, 1) := by decide +kernel
theorem dL_law_406 : decode cL_law 406 = .ok (.aload_n 0, 1) := by decide +kernel
theorem dL_law_407 : decode cL_law 407 = .ok (.iload_n 3, 1) := by decide +kernel
theorem dL_law_408 : decode cL_law 408 = .ok (.iconst 5, 1) := by decide +kernel
theorem dL_law_409 : decode cL_law 409 = .ok (.iadd, 1) := by decide +kernel
theorem dL_law_410 : decode cL_law 410 = .ok (.iaload, 1) := by decide +kernel
theorem dL_law_411 : decode cL_law 411 = .ok (.invokevirtual 44, 3) := by decide +kernel
theorem dL_law_414 : decode cL_law 414 = .ok (.aload_n 2, 1) := by decide +kernel
theorem dL_law_415 : decode cL_law 415 = .ok (.aload_n 0, 1) := by decide +kernel
theorem dL_law_416 : decode cL_law 416 = .ok (.iload_n 3, 1) := by decide +kernel
theorem dL_law_417 : decode cL_law 417 = .ok (.iconst 1, 1) := by decide +kernel
theorem dL_law_418 : decode cL_law 418 = .ok (.iadd, 1) := by decide +kernel
theorem dL_law_419 : decode cL_law 419 = .ok (.iaload, 1) := by decide +kernel
theorem dL_law_420 : decode cL_law 420 = .ok (.aload_n 0, 1) := by decide +kernel
theorem dL_law_421 : decode cL_law 421 = .ok (.iload_n 3, 1) := by decide +kernel
theorem dL_law_422 : decode cL_law 422 = .ok (.iconst 2, 1) := by decide +kernel
theorem dL_law_423 : decode cL_law 423 = .ok (.iadd, 1) := by decide +kernel
theorem dL_law_424 : decode cL_law 424 = .ok (.iaload, 1) := by decide +kernel
theorem dL_law_425 : decode cL_law 425 = .ok (.aload_n 0, 1) := by decide +kernel
theorem dL_law_426 : decode cL_law 426 = .ok (.iload_n 3, 1) := by decide +kernel
theorem dL_law_427 : decode cL_law 427 = .ok (.iconst 3, 1) := by decide +kernel
theorem dL_law_428 : decode cL_law 428 = .ok (.iadd, 1) := by decide +kernel
theorem dL_law_429 : decode cL_law 429 = .ok (.iaload, 1) := by decide +kernel
theorem dL_law_430 : decode cL_law 430 = .ok (.aload_n 0, 1) := by decide +kernel
theorem dL_law_431 : decode cL_law 431 = .ok (.iload_n 3, 1) := by decide +kernel
theorem dL_law_432 : decode cL_law 432 = .ok (.iconst 4, 1) := by decide +kernel
theorem dL_law_433 : decode cL_law 433 = .ok (.iadd, 1) := by decide +kernel
theorem dL_law_434 : decode cL_law 434 = .ok (.iaload, 1) := by decide +kernel
theorem dL_law_435 : decode cL_law 435 = .ok (.aload_n 0, 1) := by decide +kernel
theorem dL_law_436 : decode cL_law 436 = .ok (.iload_n 3, 1) := by decide +kernel
theorem dL_law_437 : decode cL_law 437 = .ok (.iconst 5, 1) := by decide +kernel
theorem dL_law_438 : decode cL_law 438 = .ok (.iadd, 1) := by decide +kernel
theorem dL_law_439 : decode cL_law 439 = .ok (.iaload, 1) := by decide +kernel
theorem dL_law_440 : decode cL_law 440 = .ok (.invokevirtual 48, 3) := by decide +kernel
theorem dL_law_443 : decode cL_law 443 = .ok (.if_icmp .eq 467, 3) := by decide +kernel
theorem dL_law_446 : decode cL_law 446 = .ok (.iconst 0, 1) := by decide +kernel
theorem dL_law_447 : decode cL_law 447 = .ok (.ireturn, 1) := by decide +kernel
theorem dL_law_448 : decode cL_law 448 = .ok (.aload_n 1, 1) := by decide +kernel
theorem dL_law_449 : decode cL_law 449 = .ok (.aload_n 0, 1) := by decide +kernel
theorem dL_law_450 : decode cL_law 450 = .ok (.iload_n 3, 1) := by decide +kernel
theorem dL_law_451 : decode cL_law 451 = .ok (.iconst 1, 1) := by decide +kernel
theorem dL_law_452 : decode cL_law 452 = .ok (.iadd, 1) := by decide +kernel
theorem dL_law_453 : decode cL_law 453 = .ok (.iaload, 1) := by decide +kernel
theorem dL_law_454 : decode cL_law 454 = .ok (.invokevirtual 49, 3) := by decide +kernel
theorem dL_law_457 : decode cL_law 457 = .ok (.aload_n 2, 1) := by decide +kernel
theorem dL_law_458 : decode cL_law 458 = .ok (.aload_n 0, 1) := by decide +kernel
theorem dL_law_459 : decode cL_law 459 = .ok (.iload_n 3, 1) := by decide +kernel
theorem dL_law_460 : decode cL_law 460 = .ok (.iconst 1, 1) := by decide +kernel
theorem dL_law_461 : decode cL_law 461 = .ok (.iadd, 1) := by decide +kernel
theorem dL_law_462 : decode cL_law 462 = .ok (.iaload, 1) := by decide +kernel
theorem dL_law_463 : decode cL_law 463 = .ok (.invokevirtual 52, 3) := by decide +kernel
theorem dL_law_466 : decode cL_law 466 = .ok (.if_icmp .eq 444, 3) := by decide +kernel
theorem dL_law_469 : decode cL_law 469 = .ok (.iconst 0, 1) := by decide +kernel
theorem dL_law_470 : decode cL_law 470 = .ok (.ireturn, 1) := by decide +kernel
theorem dL_law_471 : decode cL_law 471 = .ok (.aload_n 1, 1) := by decide +kernel
theorem dL_law_472 : decode cL_law 472 = .ok (.aload_n 0, 1) := by decide +kernel
theorem dL_law_473 : decode cL_law 473 = .ok (.iload_n 3, 1) := by decide +kernel
theorem dL_law_474 : decode cL_law 474 = .ok (.iconst 1, 1) := by decide +kernel
theorem dL_law_475 : decode cL_law 475 = .ok (.iadd, 1) := by decide +kernel
theorem dL_law_476 : decode cL_law 476 = .ok (.iaload, 1) := by decide +kernel
theorem dL_law_477 : decode cL_law 477 = .ok (.invokevirtual 53, 3) := by decide +kernel
theorem dL_law_480 : decode cL_law 480 = .ok (.aload_n 2, 1) := by decide +kernel
theorem dL_law_481 : decode cL_law 481 = .ok (.aload_n 0, 1) := by decide +kernel
theorem dL_law_482 : decode cL_law 482 = .ok (.iload_n 3, 1) := by decide +kernel
theorem dL_law_483 : decode cL_law 483 = .ok (.iconst 1, 1) := by decide +kernel
theorem dL_law_484 : decode cL_law 484 = .ok (.iadd, 1) := by decide +kernel
theorem dL_law_485 : decode cL_law 485 = .ok (.iaload, 1) := by decide +kernel
theorem dL_law_486 : decode cL_law 486 = .ok (.invokevirtual 56, 3) := by decide +kernel
theorem dL_law_489 : decode cL_law 489 = .ok (.if_icmp .eq 421, 3) := by decide +kernel
theorem dL_law_492 : decode cL_law 492 = .ok (.iconst 0, 1) := by decide +kernel
theorem dL_law_493 : decode cL_law 493 = .ok (.ireturn, 1) := by decide +kernel
theorem dL_law_494 : decode cL_law 494 = .ok (.aload_n 1, 1) := by decide +kernel
theorem dL_law_495 : decode cL_law 495 = .ok (.aload_n 0, 1) := by decide +kernel
theorem dL_law_496 : decode cL_law 496 = .ok (.iload_n 3, 1) := by decide +kernel
theorem dL_law_497 : decode cL_law 497 = .ok (.iconst 1, 1) := by decide +kernel
theorem dL_law_498 : decode cL_law 498 = .ok (.iadd, 1) := by decide +kernel
theorem dL_law_499 : decode cL_law 499 = .ok (.iaload, 1) := by decide +kernel
theorem dL_law_500 : decode cL_law 500 = .ok (.aload_n 0, 1) := by decide +kernel
theorem dL_law_501 : decode cL_law 501 = .ok (.iload_n 3, 1) := by decide +kernel
theorem dL_law_502 : decode cL_law 502 = .ok (.iconst 2, 1) := by decide +kernel
theorem dL_law_503 : decode cL_law 503 = .ok (.iadd, 1) := by decide +kernel
theorem dL_law_504 : decode cL_law 504 = .ok (.iaload, 1) := by decide +kernel
theorem dL_law_505 : decode cL_law 505 = .ok (.aload_n 0, 1) := by decide +kernel
theorem dL_law_506 : decode cL_law 506 = .ok (.iload_n 3, 1) := by decide +kernel
theorem dL_law_507 : decode cL_law 507 = .ok (.iconst 3, 1) := by decide +kernel
theorem dL_law_508 : decode cL_law 508 = .ok (.iadd, 1) := by decide +kernel
theorem dL_law_509 : decode cL_law 509 = .ok (.iaload, 1) := by decide +kernel
theorem dL_law_510 : decode cL_law 510 = .ok (.aload_n 0, 1) := by decide +kernel
theorem dL_law_511 : decode cL_law 511 = .ok (.iload_n 3, 1) := by decide +kernel
theorem dL_law_512 : decode cL_law 512 = .ok (.iconst 4, 1) := by decide +kernel
theorem dL_law_513 : decode cL_law 513 = .ok (.iadd, 1) := by decide +kernel
theorem dL_law_514 : decode cL_law 514 = .ok (.iaload, 1) := by decide +kernel
theorem dL_law_515 : decode cL_law 515 = .ok (.aload_n 0, 1) := by decide +kernel
theorem dL_law_516 : decode cL_law 516 = .ok (.iload_n 3, 1) := by decide +kernel
theorem dL_law_517 : decode cL_law 517 = .ok (.iconst 5, 1) := by decide +kernel
theorem dL_law_518 : decode cL_law 518 = .ok (.iadd, 1) := by decide +kernel
theorem dL_law_519 : decode cL_law 519 = .ok (.iaload, 1) := by decide +kernel
theorem dL_law_520 : decode cL_law 520 = .ok (.aload_n 0, 1) := by decide +kernel
theorem dL_law_521 : decode cL_law 521 = .ok (.iload_n 3, 1) := by decide +kernel
theorem dL_law_522 : decode cL_law 522 = .ok (.bipush 6, 2) := by decide +kernel
theorem dL_law_524 : decode cL_law 524 = .ok (.iadd, 1) := by decide +kernel
theorem dL_law_525 : decode cL_law 525 = .ok (.iaload, 1) := by decide +kernel
theorem dL_law_526 : decode cL_law 526 = .ok (.aload_n 0, 1) := by decide +kernel
theorem dL_law_527 : decode cL_law 527 = .ok (.iload_n 3, 1) := by decide +kernel
theorem dL_law_528 : decode cL_law 528 = .ok (.bipush 7, 2) := by decide +kernel
theorem dL_law_530 : decode cL_law 530 = .ok (.iadd, 1) := by decide +kernel
theorem dL_law_531 : decode cL_law 531 = .ok (.iaload, 1) := by decide +kernel
theorem dL_law_532 : decode cL_law 532 = .ok (.invokevirtual 57, 3) := by decide +kernel
theorem dL_law_535 : decode cL_law 535 = .ok (.aload_n 2, 1) := by decide +kernel
theorem dL_law_536 : decode cL_law 536 = .ok (.aload_n 0, 1) := by decide +kernel
theorem dL_law_537 : decode cL_law 537 = .ok (.iload_n 3, 1) := by decide +kernel
theorem dL_law_538 : decode cL_law 538 = .ok (.iconst 1, 1) := by decide +kernel
theorem dL_law_539 : decode cL_law 539 = .ok (.iadd, 1) := by decide +kernel
theorem dL_law_540 : decode cL_law 540 = .ok (.iaload, 1) := by decide +kernel
theorem dL_law_541 : decode cL_law 541 = .ok (.aload_n 0, 1) := by decide +kernel
theorem dL_law_542 : decode cL_law 542 = .ok (.iload_n 3, 1) := by decide +kernel
theorem dL_law_543 : decode cL_law 543 = .ok (.iconst 2, 1) := by decide +kernel
theorem dL_law_544 : decode cL_law 544 = .ok (.iadd, 1) := by decide +kernel
theorem dL_law_545 : decode cL_law 545 = .ok (.iaload, 1) := by decide +kernel
theorem dL_law_546 : decode cL_law 546 = .ok (.aload_n 0, 1) := by decide +kernel
theorem dL_law_547 : decode cL_law 547 = .ok (.iload_n 3, 1) := by decide +kernel
theorem dL_law_548 : decode cL_law 548 = .ok (.iconst 3, 1) := by decide +kernel
theorem dL_law_549 : decode cL_law 549 = .ok (.iadd, 1) := by decide +kernel
theorem dL_law_550 : decode cL_law 550 = .ok (.iaload, 1) := by decide +kernel
theorem dL_law_551 : decode cL_law 551 = .ok (.aload_n 0, 1) := by decide +kernel
theorem dL_law_552 : decode cL_law 552 = .ok (.iload_n 3, 1) := by decide +kernel
theorem dL_law_553 : decode cL_law 553 = .ok (.iconst 4, 1) := by decide +kernel
theorem dL_law_554 : decode cL_law 554 = .ok (.iadd, 1) := by decide +kernel
theorem dL_law_555 : decode cL_law 555 = .ok (.iaload, 1) := by decide +kernel
theorem dL_law_556 : decode cL_law 556 = .ok (.aload_n 0, 1) := by decide +kernel
theorem dL_law_557 : decode cL_law 557 = .ok (.iload_n 3, 1) := by decide +kernel
theorem dL_law_558 : decode cL_law 558 = .ok (.iconst 5, 1) := by decide +kernel
theorem dL_law_559 : decode cL_law 559 = .ok (.iadd, 1) := by decide +kernel
theorem dL_law_560 : decode cL_law 560 = .ok (.iaload, 1) := by decide +kernel
theorem dL_law_561 : decode cL_law 561 = .ok (.aload_n 0, 1) := by decide +kernel
theorem dL_law_562 : decode cL_law 562 = .ok (.iload_n 3, 1) := by decide +kernel
theorem dL_law_563 : decode cL_law 563 = .ok (.bipush 6, 2) := by decide +kernel
theorem dL_law_565 : decode cL_law 565 = .ok (.iadd, 1) := by decide +kernel
theorem dL_law_566 : decode cL_law 566 = .ok (.iaload, 1) := by decide +kernel
theorem dL_law_567 : decode cL_law 567 = .ok (.aload_n 0, 1) := by decide +kernel
theorem dL_law_568 : decode cL_law 568 = .ok (.iload_n 3, 1) := by decide +kernel
theorem dL_law_569 : decode cL_law 569 = .ok (.bipush 7, 2) := by decide +kernel
theorem dL_law_571 : decode cL_law 571 = .ok (.iadd, 1) := by decide +kernel
theorem dL_law_572 : decode cL_law 572 = .ok (.iaload, 1) := by decide +kernel
theorem dL_law_573 : decode cL_law 573 = .ok (.invokevirtual 61, 3) := by decide +kernel
theorem dL_law_576 : decode cL_law 576 = .ok (.if_icmp .eq 334, 3) := by decide +kernel
theorem dL_law_579 : decode cL_law 579 = .ok (.iconst 0, 1) := by decide +kernel
theorem dL_law_580 : decode cL_law 580 = .ok (.ireturn, 1) := by decide +kernel
theorem dL_law_581 : decode cL_law 581 = .ok (.aload_n 1, 1) := by decide +kernel
theorem dL_law_582 : decode cL_law 582 = .ok (.aload_n 0, 1) := by decide +kernel
theorem dL_law_583 : decode cL_law 583 = .ok (.iload_n 3, 1) := by decide +kernel
theorem dL_law_584 : decode cL_law 584 = .ok (.iconst 1, 1) := by decide +kernel
theorem dL_law_585 : decode cL_law 585 = .ok (.iadd, 1) := by decide +kernel
theorem dL_law_586 : decode cL_law 586 = .ok (.iaload, 1) := by decide +kernel
theorem dL_law_587 : decode cL_law 587 = .ok (.invokevirtual 62, 3) := by decide +kernel
theorem dL_law_590 : decode cL_law 590 = .ok (.aload_n 2, 1) := by decide +kernel
theorem dL_law_591 : decode cL_law 591 = .ok (.aload_n 0, 1) := by decide +kernel
theorem dL_law_592 : decode cL_law 592 = .ok (.iload_n 3, 1) := by decide +kernel
theorem dL_law_593 : decode cL_law 593 = .ok (.iconst 1, 1) := by decide +kernel
theorem dL_law_594 : decode cL_law 594 = .ok (.iadd, 1) := by decide +kernel
theorem dL_law_595 : decode cL_law 595 = .ok (.iaload, 1) := by decide +kernel
theorem dL_law_596 : decode cL_law 596 = .ok (.invokevirtual 65, 3) := by decide +kernel
theorem dL_law_599 : decode cL_law 599 = .ok (.if_icmp .eq 311, 3) := by decide +kernel
theorem dL_law_602 : decode cL_law 602 = .ok (.iconst 0, 1) := by decide +kernel
theorem dL_law_603 : decode cL_law 603 = .ok (.ireturn, 1) := by decide +kernel
theorem dL_law_604 : decode cL_law 604 = .ok (.aload_n 1, 1) := by decide +kernel
theorem dL_law_605 : decode cL_law 605 = .ok (.aload_n 0, 1) := by decide +kernel
theorem dL_law_606 : decode cL_law 606 = .ok (.iload_n 3, 1) := by decide +kernel
theorem dL_law_607 : decode cL_law 607 = .ok (.iconst 1, 1) := by decide +kernel
theorem dL_law_608 : decode cL_law 608 = .ok (.iadd, 1) := by decide +kernel
theorem dL_law_609 : decode cL_law 609 = .ok (.iaload, 1) := by decide +kernel
theorem dL_law_610 : decode cL_law 610 = .ok (.invokevirtual 66, 3) := by decide +kernel
theorem dL_law_613 : decode cL_law 613 = .ok (.aload_n 2, 1) := by decide +kernel
theorem dL_law_614 : decode cL_law 614 = .ok (.aload_n 0, 1) := by decide +kernel
theorem dL_law_615 : decode cL_law 615 = .ok (.iload_n 3, 1) := by decide +kernel
theorem dL_law_616 : decode cL_law 616 = .ok (.iconst 1, 1) := by decide +kernel
theorem dL_law_617 : decode cL_law 617 = .ok (.iadd, 1) := by decide +kernel
theorem dL_law_618 : decode cL_law 618 = .ok (.iaload, 1) := by decide +kernel
theorem dL_law_619 : decode cL_law 619 = .ok (.invokevirtual 69, 3) := by decide +kernel
theorem dL_law_622 : decode cL_law 622 = .ok (.if_icmp .eq 288, 3) := by decide +kernel
theorem dL_law_625 : decode cL_law 625 = .ok (.iconst 0, 1) := by decide +kernel
theorem dL_law_626 : decode cL_law 626 = .ok (.ireturn, 1) := by decide +kernel
theorem dL_law_627 : decode cL_law 627 = .ok (.aload_n 1, 1) := by decide +kernel
theorem dL_law_628 : decode cL_law 628 = .ok (.aload_n 0, 1) := by decide +kernel
theorem dL_law_629 : decode cL_law 629 = .ok (.iload_n 3, 1) := by decide +kernel
theorem dL_law_630 : decode cL_law 630 = .ok (.iconst 1, 1) := by decide +kernel
theorem dL_law_631 : decode cL_law 631 = .ok (.iadd, 1) := by decide +kernel
theorem dL_law_632 : decode cL_law 632 = .ok (.iaload, 1) := by decide +kernel
theorem dL_law_633 : decode cL_law 633 = .ok (.aload_n 0, 1) := by decide +kernel
theorem dL_law_634 : decode cL_law 634 = .ok (.iload_n 3, 1) := by decide +kernel
theorem dL_law_635 : decode cL_law 635 = .ok (.iconst 2, 1) := by decide +kernel
theorem dL_law_636 : decode cL_law 636 = .ok (.iadd, 1) := by decide +kernel
theorem dL_law_637 : decode cL_law 637 = .ok (.iaload, 1) := by decide +kernel
theorem dL_law_638 : decode cL_law 638 = .ok (.aload_n 0, 1) := by decide +kernel
theorem dL_law_639 : decode cL_law 639 = .ok (.iload_n 3, 1) := by decide +kernel
theorem dL_law_640 : decode cL_law 640 = .ok (.iconst 3, 1) := by decide +kernel
theorem dL_law_641 : decode cL_law 641 = .ok (.iadd, 1) := by decide +kernel
theorem dL_law_642 : decode cL_law 642 = .ok (.iaload, 1) := by decide +kernel
theorem dL_law_643 : decode cL_law 643 = .ok (.aload_n 0, 1) := by decide +kernel
theorem dL_law_644 : decode cL_law 644 = .ok (.iload_n 3, 1) := by decide +kernel
theorem dL_law_645 : decode cL_law 645 = .ok (.iconst 4, 1) := by decide +kernel
theorem dL_law_646 : decode cL_law 646 = .ok (.iadd, 1) := by decide +kernel
theorem dL_law_647 : decode cL_law 647 = .ok (.iaload, 1) := by decide +kernel
theorem dL_law_648 : decode cL_law 648 = .ok (.invokevirtual 70, 3) := by decide +kernel
theorem dL_law_651 : decode cL_law 651 = .ok (.aload_n 2, 1) := by decide +kernel
theorem dL_law_652 : decode cL_law 652 = .ok (.aload_n 0, 1) := by decide +kernel
theorem dL_law_653 : decode cL_law 653 = .ok (.iload_n 3, 1) := by decide +kernel
theorem dL_law_654 : decode cL_law 654 = .ok (.iconst 1, 1) := by decide +kernel
theorem dL_law_655 : decode cL_law 655 = .ok (.iadd, 1) := by decide +kernel
theorem dL_law_656 : decode cL_law 656 = .ok (.iaload, 1) := by decide +kernel
theorem dL_law_657 : decode cL_law 657 = .ok (.aload_n 0, 1) := by decide +kernel
theorem dL_law_658 : decode cL_law 658 = .ok (.iload_n 3, 1) := by decide +kernel
theorem dL_law_659 : decode cL_law 659 = .ok (.iconst 2, 1) := by decide +kernel
theorem dL_law_660 : decode cL_law 660 = .ok (.iadd, 1) := by decide +kernel
theorem dL_law_661 : decode cL_law 661 = .ok (.iaload, 1) := by decide +kernel
theorem dL_law_662 : decode cL_law 662 = .ok (.aload_n 0, 1) := by decide +kernel
theorem dL_law_663 : decode cL_law 663 = .ok (.iload_n 3, 1) := by decide +kernel
theorem dL_law_664 : decode cL_law 664 = .ok (.iconst 3, 1) := by decide +kernel
theorem dL_law_665 : decode cL_law 665 = .ok (.iadd, 1) := by decide +kernel
theorem dL_law_666 : decode cL_law 666 = .ok (.iaload, 1) := by decide +kernel
theorem dL_law_667 : decode cL_law 667 = .ok (.aload_n 0, 1) := by decide +kernel
theorem dL_law_668 : decode cL_law 668 = .ok (.iload_n 3, 1) := by decide +kernel
theorem dL_law_669 : decode cL_law 669 = .ok (.iconst 4, 1) := by decide +kernel
theorem dL_law_670 : decode cL_law 670 = .ok (.iadd, 1) := by decide +kernel
theorem dL_law_671 : decode cL_law 671 = .ok (.iaload, 1) := by decide +kernel
theorem dL_law_672 : decode cL_law 672 = .ok (.invokevirtual 73, 3) := by decide +kernel
theorem dL_law_675 : decode cL_law 675 = .ok (.if_icmp .eq 235, 3) := by decide +kernel
theorem dL_law_678 : decode cL_law 678 = .ok (.iconst 0, 1) := by decide +kernel
theorem dL_law_679 : decode cL_law 679 = .ok (.ireturn, 1) := by decide +kernel
theorem dL_law_680 : decode cL_law 680 = .ok (.aload_n 1, 1) := by decide +kernel
theorem dL_law_681 : decode cL_law 681 = .ok (.aload_n 0, 1) := by decide +kernel
theorem dL_law_682 : decode cL_law 682 = .ok (.iload_n 3, 1) := by decide +kernel
theorem dL_law_683 : decode cL_law 683 = .ok (.iconst 1, 1) := by decide +kernel
theorem dL_law_684 : decode cL_law 684 = .ok (.iadd, 1) := by decide +kernel
theorem dL_law_685 : decode cL_law 685 = .ok (.iaload, 1) := by decide +kernel
theorem dL_law_686 : decode cL_law 686 = .ok (.invokevirtual 74, 3) := by decide +kernel
theorem dL_law_689 : decode cL_law 689 = .ok (.aload_n 2, 1) := by decide +kernel
theorem dL_law_690 : decode cL_law 690 = .ok (.aload_n 0, 1) := by decide +kernel
theorem dL_law_691 : decode cL_law 691 = .ok (.iload_n 3, 1) := by decide +kernel
theorem dL_law_692 : decode cL_law 692 = .ok (.iconst 1, 1) := by decide +kernel
theorem dL_law_693 : decode cL_law 693 = .ok (.iadd, 1) := by decide +kernel
theorem dL_law_694 : decode cL_law 694 = .ok (.iaload, 1) := by decide +kernel
theorem dL_law_695 : decode cL_law 695 = .ok (.invokevirtual 77, 3) := by decide +kernel
theorem dL_law_698 : decode cL_law 698 = .ok (.if_icmp .eq 212, 3) := by decide +kernel
theorem dL_law_701 : decode cL_law 701 = .ok (.iconst 0, 1) := by decide +kernel
theorem dL_law_702 : decode cL_law 702 = .ok (.ireturn, 1) := by decide +kernel
theorem dL_law_703 : decode cL_law 703 = .ok (.aload_n 1, 1) := by decide +kernel
theorem dL_law_704 : decode cL_law 704 = .ok (.aload_n 0, 1) := by decide +kernel
theorem dL_law_705 : decode cL_law 705 = .ok (.iload_n 3, 1) := by decide +kernel
theorem dL_law_706 : decode cL_law 706 = .ok (.iconst 1, 1) := by decide +kernel
theorem dL_law_707 : decode cL_law 707 = .ok (.iadd, 1) := by decide +kernel
theorem dL_law_708 : decode cL_law 708 = .ok (.iaload, 1) := by decide +kernel
theorem dL_law_709 : decode cL_law 709 = .ok (.aload_n 0, 1) := by decide +kernel
theorem dL_law_710 : decode cL_law 710 = .ok (.iload_n 3, 1) := by decide +kernel
theorem dL_law_711 : decode cL_law 711 = .ok (.iconst 2, 1) := by decide +kernel
theorem dL_law_712 : decode cL_law 712 = .ok (.iadd, 1) := by decide +kernel
theorem dL_law_713 : decode cL_law 713 = .ok (.iaload, 1) := by decide +kernel
theorem dL_law_714 : decode cL_law 714 = .ok (.invokevirtual 78, 3) := by decide +kernel
theorem dL_law_717 : decode cL_law 717 = .ok (.aload_n 2, 1) := by decide +kernel
theorem dL_law_718 : decode cL_law 718 = .ok (.aload_n 0, 1) := by decide +kernel
theorem dL_law_719 : decode cL_law 719 = .ok (.iload_n 3, 1) := by decide +kernel
theorem dL_law_720 : decode cL_law 720 = .ok (.iconst 1, 1) := by decide +kernel
theorem dL_law_721 : decode cL_law 721 = .ok (.iadd, 1) := by decide +kernel
theorem dL_law_722 : decode cL_law 722 = .ok (.iaload, 1) := by decide +kernel
theorem dL_law_723 : decode cL_law 723 = .ok (.aload_n 0, 1) := by decide +kernel
theorem dL_law_724 : decode cL_law 724 = .ok (.iload_n 3, 1) := by decide +kernel
theorem dL_law_725 : decode cL_law 725 = .ok (.iconst 2, 1) := by decide +kernel
theorem dL_law_726 : decode cL_law 726 = .ok (.iadd, 1) := by decide +kernel
theorem dL_law_727 : decode cL_law 727 = .ok (.iaload, 1) := by decide +kernel
theorem dL_law_728 : decode cL_law 728 = .ok (.invokevirtual 81, 3) := by decide +kernel
theorem dL_law_731 : decode cL_law 731 = .ok (.if_icmp .eq 179, 3) := by decide +kernel
theorem dL_law_734 : decode cL_law 734 = .ok (.iconst 0, 1) := by decide +kernel
theorem dL_law_735 : decode cL_law 735 = .ok (.ireturn, 1) := by decide +kernel
theorem dL_law_736 : decode cL_law 736 = .ok (.aload_n 1, 1) := by decide +kernel
theorem dL_law_737 : decode cL_law 737 = .ok (.invokevirtual 82, 3) := by decide +kernel
theorem dL_law_740 : decode cL_law 740 = .ok (.aload_n 2, 1) := by decide +kernel
theorem dL_law_741 : decode cL_law 741 = .ok (.invokevirtual 86, 3) := by decide +kernel
theorem dL_law_744 : decode cL_law 744 = .ok (.if_icmp .eq 166, 3) := by decide +kernel
theorem dL_law_747 : decode cL_law 747 = .ok (.iconst 0, 1) := by decide +kernel
theorem dL_law_748 : decode cL_law 748 = .ok (.ireturn, 1) := by decide +kernel
theorem dL_law_749 : decode cL_law 749 = .ok (.aload_n 1, 1) := by decide +kernel
theorem dL_law_750 : decode cL_law 750 = .ok (.aload_n 0, 1) := by decide +kernel
theorem dL_law_751 : decode cL_law 751 = .ok (.iload_n 3, 1) := by decide +kernel
theorem dL_law_752 : decode cL_law 752 = .ok (.iconst 1, 1) := by decide +kernel
theorem dL_law_753 : decode cL_law 753 = .ok (.iadd, 1) := by decide +kernel
theorem dL_law_754 : decode cL_law 754 = .ok (.iaload, 1) := by decide +kernel
theorem dL_law_755 : decode cL_law 755 = .ok (.invokevirtual 87, 3) := by decide +kernel
theorem dL_law_758 : decode cL_law 758 = .ok (.aload_n 2, 1) := by decide +kernel
theorem dL_law_759 : decode cL_law 759 = .ok (.aload_n 0, 1) := by decide +kernel
theorem dL_law_760 : decode cL_law 760 = .ok (.iload_n 3, 1) := by decide +kernel
theorem dL_law_761 : decode cL_law 761 = .ok (.iconst 1, 1) := by decide +kernel
theorem dL_law_762 : decode cL_law 762 = .ok (.iadd, 1) := by decide +kernel
theorem dL_law_763 : decode cL_law 763 = .ok (.iaload, 1) := by decide +kernel
theorem dL_law_764 : decode cL_law 764 = .ok (.invokevirtual 90, 3) := by decide +kernel
theorem dL_law_767 : decode cL_law 767 = .ok (.if_icmp .eq 143, 3) := by decide +kernel
theorem dL_law_770 : decode cL_law 770 = .ok (.iconst 0, 1) := by decide +kernel
theorem dL_law_771 : decode cL_law 771 = .ok (.ireturn, 1) := by decide +kernel
theorem dL_law_772 : decode cL_law 772 = .ok (.aload_n 1, 1) := by decide +kernel
theorem dL_law_773 : decode cL_law 773 = .ok (.aload_n 0, 1) := by decide +kernel
theorem dL_law_774 : decode cL_law 774 = .ok (.iload_n 3, 1) := by decide +kernel
theorem dL_law_775 : decode cL_law 775 = .ok (.iconst 1, 1) := by decide +kernel
theorem dL_law_776 : decode cL_law 776 = .ok (.iadd, 1) := by decide +kernel
theorem dL_law_777 : decode cL_law 777 = .ok (.iaload, 1) := by decide +kernel
theorem dL_law_778 : decode cL_law 778 = .ok (.invokevirtual 91, 3) := by decide +kernel
theorem dL_law_781 : decode cL_law 781 = .ok (.aload_n 2, 1) := by decide +kernel
theorem dL_law_782 : decode cL_law 782 = .ok (.aload_n 0, 1) := by decide +kernel
theorem dL_law_783 : decode cL_law 783 = .ok (.iload_n 3, 1) := by decide +kernel
theorem dL_law_784 : decode cL_law 784 = .ok (.iconst 1, 1) := by decide +kernel
theorem dL_law_785 : decode cL_law 785 = .ok (.iadd, 1) := by decide +kernel
theorem dL_law_786 : decode cL_law 786 = .ok (.iaload, 1) := by decide +kernel
theorem dL_law_787 : decode cL_law 787 = .ok (.invokevirtual 94, 3) := by decide +kernel
theorem dL_law_790 : decode cL_law 790 = .ok (.if_icmp .eq 120, 3) := by decide +kernel
theorem dL_law_793 : decode cL_law 793 = .ok (.iconst 0, 1) := by decide +kernel
theorem dL_law_794 : decode cL_law 794 = .ok (.ireturn, 1) := by decide +kernel
theorem dL_law_795 : decode cL_law 795 = .ok (.aload_n 1, 1) := by decide +kernel
theorem dL_law_796 : decode cL_law 796 = .ok (.aload_n 0, 1) := by decide +kernel
theorem dL_law_797 : decode cL_law 797 = .ok (.iload_n 3, 1) := by decide +kernel
theorem dL_law_798 : decode cL_law 798 = .ok (.iconst 1, 1) := by decide +kernel
theorem dL_law_799 : decode cL_law 799 = .ok (.iadd, 1) := by decide +kernel
theorem dL_law_800 : decode cL_law 800 = .ok (.iaload, 1) := by decide +kernel
theorem dL_law_801 : decode cL_law 801 = .ok (.aload_n 0, 1) := by decide +kernel
theorem dL_law_802 : decode cL_law 802 = .ok (.iload_n 3, 1) := by decide +kernel
theorem dL_law_803 : decode cL_law 803 = .ok (.iconst 2, 1) := by decide +kernel
theorem dL_law_804 : decode cL_law 804 = .ok (.iadd, 1) := by decide +kernel
theorem dL_law_805 : decode cL_law 805 = .ok (.iaload, 1) := by decide +kernel
theorem dL_law_806 : decode cL_law 806 = .ok (.invokevirtual 95, 3) := by decide +kernel
theorem dL_law_809 : decode cL_law 809 = .ok (.aload_n 2, 1) := by decide +kernel
theorem dL_law_810 : decode cL_law 810 = .ok (.aload_n 0, 1) := by decide +kernel
theorem dL_law_811 : decode cL_law 811 = .ok (.iload_n 3, 1) := by decide +kernel
theorem dL_law_812 : decode cL_law 812 = .ok (.iconst 1, 1) := by decide +kernel
theorem dL_law_813 : decode cL_law 813 = .ok (.iadd, 1) := by decide +kernel
theorem dL_law_814 : decode cL_law 814 = .ok (.iaload, 1) := by decide +kernel
theorem dL_law_815 : decode cL_law 815 = .ok (.aload_n 0, 1) := by decide +kernel
theorem dL_law_816 : decode cL_law 816 = .ok (.iload_n 3, 1) := by decide +kernel
theorem dL_law_817 : decode cL_law 817 = .ok (.iconst 2, 1) := by decide +kernel
theorem dL_law_818 : decode cL_law 818 = .ok (.iadd, 1) := by decide +kernel
theorem dL_law_819 : decode cL_law 819 = .ok (.iaload, 1) := by decide +kernel
theorem dL_law_820 : decode cL_law 820 = .ok (.invokevirtual 98, 3) := by decide +kernel
theorem dL_law_823 : decode cL_law 823 = .ok (.if_icmp .eq 87, 3) := by decide +kernel
theorem dL_law_826 : decode cL_law 826 = .ok (.iconst 0, 1) := by decide +kernel
theorem dL_law_827 : decode cL_law 827 = .ok (.ireturn, 1) := by decide +kernel
theorem dL_law_828 : decode cL_law 828 = .ok (.aload_n 1, 1) := by decide +kernel
theorem dL_law_829 : decode cL_law 829 = .ok (.invokevirtual 99, 3) := by decide +kernel
theorem dL_law_832 : decode cL_law 832 = .ok (.aload_n 2, 1) := by decide +kernel
theorem dL_law_833 : decode cL_law 833 = .ok (.invokevirtual 102, 3) := by decide +kernel
theorem dL_law_836 : decode cL_law 836 = .ok (.if_icmp .eq 74, 3) := by decide +kernel
theorem dL_law_839 : decode cL_law 839 = .ok (.iconst 0, 1) := by decide +kernel
theorem dL_law_840 : decode cL_law 840 = .ok (.ireturn, 1) := by decide +kernel
theorem dL_law_841 : decode cL_law 841 = .ok (.aload_n 1, 1) := by decide +kernel
theorem dL_law_842 : decode cL_law 842 = .ok (.aload_n 0, 1) := by decide +kernel
theorem dL_law_843 : decode cL_law 843 = .ok (.iload_n 3, 1) := by decide +kernel
theorem dL_law_844 : decode cL_law 844 = .ok (.iconst 1, 1) := by decide +kernel
theorem dL_law_845 : decode cL_law 845 = .ok (.iadd, 1) := by decide +kernel
theorem dL_law_846 : decode cL_law 846 = .ok (.iaload, 1) := by decide +kernel
theorem dL_law_847 : decode cL_law 847 = .ok (.invokevirtual 103, 3) := by decide +kernel
theorem dL_law_850 : decode cL_law 850 = .ok (.aload_n 2, 1) := by decide +kernel
theorem dL_law_851 : decode cL_law 851 = .ok (.aload_n 0, 1) := by decide +kernel
theorem dL_law_852 : decode cL_law 852 = .ok (.iload_n 3, 1) := by decide +kernel
theorem dL_law_853 : decode cL_law 853 = .ok (.iconst 1, 1) := by decide +kernel
theorem dL_law_854 : decode cL_law 854 = .ok (.iadd, 1) := by decide +kernel
theorem dL_law_855 : decode cL_law 855 = .ok (.iaload, 1) := by decide +kernel
theorem dL_law_856 : decode cL_law 856 = .ok (.invokevirtual 106, 3) := by decide +kernel
theorem dL_law_859 : decode cL_law 859 = .ok (.if_icmp .eq 51, 3) := by decide +kernel
theorem dL_law_862 : decode cL_law 862 = .ok (.iconst 0, 1) := by decide +kernel
theorem dL_law_863 : decode cL_law 863 = .ok (.ireturn, 1) := by decide +kernel
theorem dL_law_864 : decode cL_law 864 = .ok (.aload_n 1, 1) := by decide +kernel
theorem dL_law_865 : decode cL_law 865 = .ok (.aload_n 0, 1) := by decide +kernel
theorem dL_law_866 : decode cL_law 866 = .ok (.iload_n 3, 1) := by decide +kernel
theorem dL_law_867 : decode cL_law 867 = .ok (.iconst 1, 1) := by decide +kernel
theorem dL_law_868 : decode cL_law 868 = .ok (.iadd, 1) := by decide +kernel
theorem dL_law_869 : decode cL_law 869 = .ok (.iaload, 1) := by decide +kernel
theorem dL_law_870 : decode cL_law 870 = .ok (.invokevirtual 107, 3) := by decide +kernel
theorem dL_law_873 : decode cL_law 873 = .ok (.aload_n 2, 1) := by decide +kernel
theorem dL_law_874 : decode cL_law 874 = .ok (.aload_n 0, 1) := by decide +kernel
theorem dL_law_875 : decode cL_law 875 = .ok (.iload_n 3, 1) := by decide +kernel
theorem dL_law_876 : decode cL_law 876 = .ok (.iconst 1, 1) := by decide +kernel
theorem dL_law_877 : decode cL_law 877 = .ok (.iadd, 1) := by decide +kernel
theorem dL_law_878 : decode cL_law 878 = .ok (.iaload, 1) := by decide +kernel
theorem dL_law_879 : decode cL_law 879 = .ok (.invokevirtual 110, 3) := by decide +kernel
theorem dL_law_882 : decode cL_law 882 = .ok (.if_icmp .eq 28, 3) := by decide +kernel
theorem dL_law_885 : decode cL_law 885 = .ok (.iconst 0, 1) := by decide +kernel
theorem dL_law_886 : decode cL_law 886 = .ok (.ireturn, 1) := by decide +kernel
theorem dL_law_887 : decode cL_law 887 = .ok (.aload_n 1, 1) := by decide +kernel
theorem dL_law_888 : decode cL_law 888 = .ok (.aload_n 0, 1) := by decide +kernel
theorem dL_law_889 : decode cL_law 889 = .ok (.iload_n 3, 1) := by decide +kernel
theorem dL_law_890 : decode cL_law 890 = .ok (.iconst 1, 1) := by decide +kernel
theorem dL_law_891 : decode cL_law 891 = .ok (.iadd, 1) := by decide +kernel
theorem dL_law_892 : decode cL_law 892 = .ok (.iaload, 1) := by decide +kernel
theorem dL_law_893 : decode cL_law 893 = .ok (.invokevirtual 111, 3) := by decide +kernel
theorem dL_law_896 : decode cL_law 896 = .ok (.aload_n 2, 1) := by decide +kernel
theorem dL_law_897 : decode cL_law 897 = .ok (.aload_n 0, 1) := by decide +kernel
theorem dL_law_898 : decode cL_law 898 = .ok (.iload_n 3, 1) := by decide +kernel
theorem dL_law_899 : decode cL_law 899 = .ok (.iconst 1, 1) := by decide +kernel
theorem dL_law_900 : decode cL_law 900 = .ok (.iadd, 1) := by decide +kernel
theorem dL_law_901 : decode cL_law 901 = .ok (.iaload, 1) := by decide +kernel
theorem dL_law_902 : decode cL_law 902 = .ok (.invokevirtual 114, 3) := by decide +kernel
theorem dL_law_905 : decode cL_law 905 = .ok (.if_icmp .eq 5, 3) := by decide +kernel
theorem dL_law_908 : decode cL_law 908 = .ok (.iconst 0, 1) := by decide +kernel
theorem dL_law_909 : decode cL_law 909 = .ok (.ireturn, 1) := by decide +kernel
theorem dL_law_910 : decode cL_law 910 = .ok (.iinc 3 8, 3) := by decide +kernel
theorem dL_law_913 : decode cL_law 913 = .ok (.goto (-895), 3) := by decide +kernel
theorem dL_law_916 : decode cL_law 916 = .ok (.iconst 1, 1) := by decide +kernel
theorem dL_law_917 : decode cL_law 917 = .ok (.ireturn, 1) := by decide +kernel
end
section
/-! ===== the words that all contracts speak of: the good ones of the tables; each by its place ===== -/
def wsA : List Cond := lw_tbl.filter goodWord
theorem wsA_in : ∀ w ∈ wsA, w ∈ lw_tbl := fun _ h => (List.mem_filter.mp h).1
theorem wsA_good : GoodIn wsA wsA := fun w h => ⟨h, good_of_word (List.mem_filter.mp h).2⟩
theorem wt_in {w : Cond} (h : w ∈ tables_1) : w ∈ lw_tbl := List.mem_append_right _ h
theorem wt_1 {w : Cond} (h : w ∈ tables_1_1) : w ∈ lw_tbl := wt_in (List.mem_append_left _ h)
theorem wt_2 {w : Cond} (h : w ∈ tables_1_2) : w ∈ lw_tbl := wt_in (List.mem_append_right _ (List.mem_append_left _ h))
theorem wt_3 {w : Cond} (h : w ∈ tables_1_3) : w ∈ lw_tbl := wt_in (List.mem_append_right _ (List.mem_append_right _ (List.mem_append_left _ h)))
theorem wt_4 {w : Cond} (h : w ∈ tables_1_4) : w ∈ lw_tbl := wt_in (List.mem_append_right _ (List.mem_append_right _ (List.mem_append_right _ (List.mem_append_left _ h))))
theorem wt_5 {w : Cond} (h : w ∈ tables_1_5) : w ∈ lw_tbl := wt_in (List.mem_append_right _ (List.mem_append_right _ (List.mem_append_right _ (List.mem_append_right _ h))))
theorem wpv_1 {y : MethodName × Nat} (h : y ∈ lw_privs_1) : Cond.selects y.1.cls y.1 y.1 ∈ lw_tbl := List.mem_append_left _ (List.mem_map.mpr ⟨y, List.mem_append_left _ h, rfl⟩)
theorem wpv_2 {y : MethodName × Nat} (h : y ∈ lw_privs_2) : Cond.selects y.1.cls y.1 y.1 ∈ lw_tbl := List.mem_append_left _ (List.mem_map.mpr ⟨y, List.mem_append_right _ (List.mem_append_left _ h), rfl⟩)
theorem wpv_3 {y : MethodName × Nat} (h : y ∈ lw_privs_3) : Cond.selects y.1.cls y.1 y.1 ∈ lw_tbl := List.mem_append_left _ (List.mem_map.mpr ⟨y, List.mem_append_right _ (List.mem_append_right _ h), rfl⟩)
theorem wq1_0 : Jvm.Cond.initialized "NoticeBoxesLaw" ∈ wsA := List.mem_filter.mpr ⟨wt_1 (List.mem_of_getElem? (i := 0) rfl), rfl⟩
theorem wq1_1 : Jvm.Cond.initialized "NoticeBoxes" ∈ wsA := List.mem_filter.mpr ⟨wt_1 (List.mem_of_getElem? (i := 1) rfl), rfl⟩
theorem wq1_2 : Jvm.Cond.initialized "NoticeBoxes$State" ∈ wsA := List.mem_filter.mpr ⟨wt_1 (List.mem_of_getElem? (i := 2) rfl), rfl⟩
theorem wq1_3 : Jvm.Cond.initialized "NoticeBoxes$Client" ∈ wsA := List.mem_filter.mpr ⟨wt_1 (List.mem_of_getElem? (i := 3) rfl), rfl⟩
theorem wq1_4 : Jvm.Cond.initialized "NoticeBoxes$Tellings" ∈ wsA := List.mem_filter.mpr ⟨wt_1 (List.mem_of_getElem? (i := 4) rfl), rfl⟩
theorem wq1_5 : Jvm.Cond.initialized "NoticeBoxes$BoxList" ∈ wsA := List.mem_filter.mpr ⟨wt_1 (List.mem_of_getElem? (i := 5) rfl), rfl⟩
theorem wq1_6 : Jvm.Cond.initialized "NoticeBoxes$Journey" ∈ wsA := List.mem_filter.mpr ⟨wt_1 (List.mem_of_getElem? (i := 6) rfl), rfl⟩
theorem wq1_7 : Jvm.Cond.initialized "NoticeBoxes$Past" ∈ wsA := List.mem_filter.mpr ⟨wt_1 (List.mem_of_getElem? (i := 7) rfl), rfl⟩
theorem wq1_8 : Jvm.Cond.initialized "NoticeBoxes$Book" ∈ wsA := List.mem_filter.mpr ⟨wt_1 (List.mem_of_getElem? (i := 8) rfl), rfl⟩
theorem wq1_9 : Jvm.Cond.initialized "NoticeBoxes$Draws" ∈ wsA := List.mem_filter.mpr ⟨wt_1 (List.mem_of_getElem? (i := 9) rfl), rfl⟩
theorem wq1_10 : Jvm.Cond.initialized "NoticeBoxes$Image" ∈ wsA := List.mem_filter.mpr ⟨wt_1 (List.mem_of_getElem? (i := 10) rfl), rfl⟩
theorem wq1_11 : Jvm.Cond.initialized "NoticeBoxesModel" ∈ wsA := List.mem_filter.mpr ⟨wt_1 (List.mem_of_getElem? (i := 11) rfl), rfl⟩
theorem wq1_12 : Jvm.Cond.initialized "NoticeBoxes$Box" ∈ wsA := List.mem_filter.mpr ⟨wt_1 (List.mem_of_getElem? (i := 12) rfl), rfl⟩
theorem wq1_13 : Jvm.Cond.initialized "java/lang/Math" ∈ wsA := List.mem_filter.mpr ⟨wt_1 (List.mem_of_getElem? (i := 13) rfl), rfl⟩
theorem wq1_14 : Jvm.Cond.initialized "java/lang/System" ∈ wsA := List.mem_filter.mpr ⟨wt_1 (List.mem_of_getElem? (i := 14) rfl), rfl⟩
theorem wq1_15 : Jvm.Cond.initialized "java/lang/Integer" ∈ wsA := List.mem_filter.mpr ⟨wt_1 (List.mem_of_getElem? (i := 15) rfl), rfl⟩
theorem wq1_16 : Jvm.Cond.classLink "NoticeBoxesLaw" (7 : Nat) "NoticeBoxes" ∈ wsA := List.mem_filter.mpr ⟨wt_1 (List.mem_of_getElem? (i := 16) rfl), rfl⟩
theorem wq1_17 : Jvm.Cond.instantiable "NoticeBoxes" (7 : Nat) ∈ wsA := List.mem_filter.mpr ⟨wt_1 (List.mem_of_getElem? (i := 17) rfl), rfl⟩
theorem wq1_18 : Jvm.Cond.methodLink "NoticeBoxesLaw" (9 : Nat) ({ cls := "NoticeBoxes", name := "<init>", desc := "()V" } : Jvm.MethodName) ∈ wsA := List.mem_filter.mpr ⟨wt_1 (List.mem_of_getElem? (i := 18) rfl), rfl⟩
theorem wq1_19 : Jvm.Cond.instanceMethod ({ cls := "NoticeBoxes", name := "<init>", desc := "()V" } : Jvm.MethodName) ∈ wsA := List.mem_filter.mpr ⟨wt_1 (List.mem_of_getElem? (i := 19) rfl), rfl⟩
theorem wq1_20 : Jvm.Cond.code ({ cls := "NoticeBoxes", name := "<init>", desc := "()V" } : Jvm.MethodName) prog_1_method_1_code (2 : Nat) (Option.none : Option Jvm.ClassFile.FieldType) ∈ wsA := List.mem_filter.mpr ⟨wt_1 (List.mem_of_getElem? (i := 20) rfl), rfl⟩
theorem wq1_21 : Jvm.Cond.methodLink "NoticeBoxes" (1 : Nat) ({ cls := "java/lang/Object", name := "<init>", desc := "()V" } : Jvm.MethodName) ∈ wsA := List.mem_filter.mpr ⟨wt_1 (List.mem_of_getElem? (i := 21) rfl), rfl⟩
theorem wq1_22 : Jvm.Cond.instanceMethod ({ cls := "java/lang/Object", name := "<init>", desc := "()V" } : Jvm.MethodName) ∈ wsA := List.mem_filter.mpr ⟨wt_1 (List.mem_of_getElem? (i := 22) rfl), rfl⟩
theorem wq1_23 : Jvm.Cond.code ({ cls := "java/lang/Object", name := "<init>", desc := "()V" } : Jvm.MethodName) object_method_1_code (1 : Nat) (Option.none : Option Jvm.ClassFile.FieldType) ∈ wsA := List.mem_filter.mpr ⟨wt_1 (List.mem_of_getElem? (i := 23) rfl), rfl⟩
theorem wq1_24 : Jvm.Cond.classLink "NoticeBoxes" (7 : Nat) "NoticeBoxes$State" ∈ wsA := List.mem_filter.mpr ⟨wt_1 (List.mem_of_getElem? (i := 24) rfl), rfl⟩
theorem wq1_25 : Jvm.Cond.instantiable "NoticeBoxes$State" (11 : Nat) ∈ wsA := List.mem_filter.mpr ⟨wt_1 (List.mem_of_getElem? (i := 25) rfl), rfl⟩
theorem wq1_26 : Jvm.Cond.methodLink "NoticeBoxes" (9 : Nat) ({ cls := "NoticeBoxes$State", name := "<init>", desc := "()V" } : Jvm.MethodName) ∈ wsA := List.mem_filter.mpr ⟨wt_1 (List.mem_of_getElem? (i := 26) rfl), rfl⟩
theorem wq1_27 : Jvm.Cond.instanceMethod ({ cls := "NoticeBoxes$State", name := "<init>", desc := "()V" } : Jvm.MethodName) ∈ wsA := List.mem_filter.mpr ⟨wt_1 (List.mem_of_getElem? (i := 27) rfl), rfl⟩
theorem wq1_28 : Jvm.Cond.code ({ cls := "NoticeBoxes$State", name := "<init>", desc := "()V" } : Jvm.MethodName) prog_10_method_1_code (2 : Nat) (Option.none : Option Jvm.ClassFile.FieldType) ∈ wsA := List.mem_filter.mpr ⟨wt_1 (List.mem_of_getElem? (i := 28) rfl), rfl⟩
theorem wq1_29 : Jvm.Cond.methodLink "NoticeBoxes$State" (3 : Nat) ({ cls := "java/lang/Object", name := "<init>", desc := "()V" } : Jvm.MethodName) ∈ wsA := List.mem_filter.mpr ⟨wt_1 (List.mem_of_getElem? (i := 29) rfl), rfl⟩
theorem wq1_30 : Jvm.Cond.classLink "NoticeBoxes$State" (22 : Nat) "NoticeBoxes$Client" ∈ wsA := List.mem_filter.mpr ⟨wt_1 (List.mem_of_getElem? (i := 30) rfl), rfl⟩
theorem wq1_31 : Jvm.Cond.arrayOver (Jvm.ClassFile.FieldType.object "NoticeBoxes$Client") ∈ lw_tbl := wt_1 (List.mem_of_getElem? (i := 31) rfl)
theorem wq1_32 : Jvm.Cond.instantiable "NoticeBoxes$Client" (7 : Nat) ∈ wsA := List.mem_filter.mpr ⟨wt_1 (List.mem_of_getElem? (i := 32) rfl), rfl⟩
theorem wq1_33 : Jvm.Cond.methodLinkNest "NoticeBoxes$State" (34 : Nat) ({ cls := "NoticeBoxes$Client", name := "<init>", desc := "()V" } : Jvm.MethodName) "NoticeBoxes" ∈ lw_tbl := wt_1 (List.mem_of_getElem? (i := 33) rfl)
theorem wq1_34 : Jvm.Cond.instanceMethod ({ cls := "NoticeBoxes$Client", name := "<init>", desc := "()V" } : Jvm.MethodName) ∈ wsA := List.mem_filter.mpr ⟨wt_1 (List.mem_of_getElem? (i := 34) rfl), rfl⟩
theorem wq1_35 : Jvm.Cond.code ({ cls := "NoticeBoxes$Client", name := "<init>", desc := "()V" } : Jvm.MethodName) prog_5_method_1_code (1 : Nat) (Option.none : Option Jvm.ClassFile.FieldType) ∈ wsA := List.mem_filter.mpr ⟨wt_1 (List.mem_of_getElem? (i := 35) rfl), rfl⟩
theorem wq1_36 : Jvm.Cond.methodLink "NoticeBoxes$Client" (3 : Nat) ({ cls := "java/lang/Object", name := "<init>", desc := "()V" } : Jvm.MethodName) ∈ wsA := List.mem_filter.mpr ⟨wt_1 (List.mem_of_getElem? (i := 36) rfl), rfl⟩
theorem wq1_37 : Jvm.Cond.fieldLink "NoticeBoxes$Client" (18 : Nat) "NoticeBoxes$Client" "home" "I" ∈ wsA := List.mem_filter.mpr ⟨wt_1 (List.mem_of_getElem? (i := 37) rfl), rfl⟩
theorem wq1_38 : Jvm.Cond.fieldLink "NoticeBoxes" (125 : Nat) "NoticeBoxes$Client" "home" "I" ∈ wsA := List.mem_filter.mpr ⟨wt_1 (List.mem_of_getElem? (i := 38) rfl), rfl⟩
theorem wq1_39 : Jvm.Cond.fieldLink "NoticeBoxes$State" (72 : Nat) "NoticeBoxes$Client" "home" "I" ∈ wsA := List.mem_filter.mpr ⟨wt_1 (List.mem_of_getElem? (i := 39) rfl), rfl⟩
theorem wq1_40 : Jvm.Cond.fieldLink "NoticeBoxes$Client" (22 : Nat) "NoticeBoxes$Client" "present" "Z" ∈ wsA := List.mem_filter.mpr ⟨wt_1 (List.mem_of_getElem? (i := 40) rfl), rfl⟩
theorem wq1_41 : Jvm.Cond.fieldLink "NoticeBoxes" (130 : Nat) "NoticeBoxes$Client" "present" "Z" ∈ wsA := List.mem_filter.mpr ⟨wt_1 (List.mem_of_getElem? (i := 41) rfl), rfl⟩
theorem wq1_42 : Jvm.Cond.fieldLink "NoticeBoxes$Client" (26 : Nat) "NoticeBoxes$Client" "had" "I" ∈ wsA := List.mem_filter.mpr ⟨wt_1 (List.mem_of_getElem? (i := 42) rfl), rfl⟩
theorem wq1_43 : Jvm.Cond.fieldLink "NoticeBoxes$Book" (32 : Nat) "NoticeBoxes$Client" "had" "I" ∈ wsA := List.mem_filter.mpr ⟨wt_1 (List.mem_of_getElem? (i := 43) rfl), rfl⟩
theorem wq1_44 : Jvm.Cond.fieldLink "NoticeBoxes" (134 : Nat) "NoticeBoxes$Client" "had" "I" ∈ wsA := List.mem_filter.mpr ⟨wt_1 (List.mem_of_getElem? (i := 44) rfl), rfl⟩
theorem wq1_45 : Jvm.Cond.fieldLink "NoticeBoxes$Client" (29 : Nat) "NoticeBoxes$Client" "lost" "I" ∈ wsA := List.mem_filter.mpr ⟨wt_1 (List.mem_of_getElem? (i := 45) rfl), rfl⟩
theorem wq1_46 : Jvm.Cond.fieldLink "NoticeBoxes" (140 : Nat) "NoticeBoxes$Client" "lost" "I" ∈ wsA := List.mem_filter.mpr ⟨wt_1 (List.mem_of_getElem? (i := 46) rfl), rfl⟩
theorem wq1_47 : Jvm.Cond.fieldLink "NoticeBoxes$Client" (32 : Nat) "NoticeBoxes$Client" "keptCount" "I" ∈ wsA := List.mem_filter.mpr ⟨wt_1 (List.mem_of_getElem? (i := 47) rfl), rfl⟩
theorem wq1_48 : Jvm.Cond.fieldLink "NoticeBoxes" (137 : Nat) "NoticeBoxes$Client" "keptCount" "I" ∈ wsA := List.mem_filter.mpr ⟨wt_1 (List.mem_of_getElem? (i := 48) rfl), rfl⟩
theorem wq1_49 : Jvm.Cond.fieldLink "NoticeBoxes$Client" (9 : Nat) "NoticeBoxes$Client" "kept" "[I" ∈ wsA := List.mem_filter.mpr ⟨wt_1 (List.mem_of_getElem? (i := 49) rfl), rfl⟩
theorem wq1_50 : Jvm.Cond.fieldLink "NoticeBoxes$Client" (15 : Nat) "NoticeBoxes$Client" "latestFirst" "[I" ∈ wsA := List.mem_filter.mpr ⟨wt_1 (List.mem_of_getElem? (i := 50) rfl), rfl⟩
theorem wq1_51 : Jvm.Cond.lays "NoticeBoxes$Client" "NoticeBoxes$Client" "home" "I" ∈ wsA := List.mem_filter.mpr ⟨wt_1 (List.mem_of_getElem? (i := 51) rfl), rfl⟩
theorem wq1_52 : Jvm.Cond.soleField "NoticeBoxes$Client" "home" ∈ lw_tbl := wt_1 (List.mem_of_getElem? (i := 52) rfl)
theorem wq1_53 : Jvm.Cond.lays "NoticeBoxes$Client" "NoticeBoxes$Client" "present" "Z" ∈ wsA := List.mem_filter.mpr ⟨wt_1 (List.mem_of_getElem? (i := 53) rfl), rfl⟩
theorem wq1_54 : Jvm.Cond.soleField "NoticeBoxes$Client" "present" ∈ lw_tbl := wt_1 (List.mem_of_getElem? (i := 54) rfl)
theorem wq1_55 : Jvm.Cond.lays "NoticeBoxes$Client" "NoticeBoxes$Client" "had" "I" ∈ wsA := List.mem_filter.mpr ⟨wt_1 (List.mem_of_getElem? (i := 55) rfl), rfl⟩
theorem wq1_56 : Jvm.Cond.soleField "NoticeBoxes$Client" "had" ∈ lw_tbl := wt_1 (List.mem_of_getElem? (i := 56) rfl)
theorem wq1_57 : Jvm.Cond.lays "NoticeBoxes$Client" "NoticeBoxes$Client" "lost" "I" ∈ wsA := List.mem_filter.mpr ⟨wt_1 (List.mem_of_getElem? (i := 57) rfl), rfl⟩
theorem wq1_58 : Jvm.Cond.soleField "NoticeBoxes$Client" "lost" ∈ lw_tbl := wt_1 (List.mem_of_getElem? (i := 58) rfl)
theorem wq1_59 : Jvm.Cond.lays "NoticeBoxes$Client" "NoticeBoxes$Client" "keptCount" "I" ∈ wsA := List.mem_filter.mpr ⟨wt_1 (List.mem_of_getElem? (i := 59) rfl), rfl⟩
theorem wq1_60 : Jvm.Cond.soleField "NoticeBoxes$Client" "keptCount" ∈ lw_tbl := wt_1 (List.mem_of_getElem? (i := 60) rfl)
theorem wq1_61 : Jvm.Cond.laysFinal "NoticeBoxes$Client" "NoticeBoxes$Client" "kept" "[I" ∈ wsA := List.mem_filter.mpr ⟨wt_1 (List.mem_of_getElem? (i := 61) rfl), rfl⟩
theorem wq1_62 : Jvm.Cond.soleField "NoticeBoxes$Client" "kept" ∈ lw_tbl := wt_1 (List.mem_of_getElem? (i := 62) rfl)
theorem wq1_63 : Jvm.Cond.laysFinal "NoticeBoxes$Client" "NoticeBoxes$Client" "latestFirst" "[I" ∈ wsA := List.mem_filter.mpr ⟨wt_1 (List.mem_of_getElem? (i := 63) rfl), rfl⟩
theorem wq1_64 : Jvm.Cond.soleField "NoticeBoxes$Client" "latestFirst" ∈ lw_tbl := wt_1 (List.mem_of_getElem? (i := 64) rfl)
theorem wq1_65 : Jvm.Cond.superclass "NoticeBoxes$Client" "java/lang/Object" ∈ lw_tbl := wt_1 (List.mem_of_getElem? (i := 65) rfl)
theorem wq1_66 : Jvm.Cond.arrayClass Jvm.ClassFile.FieldType.int ∈ wsA := List.mem_filter.mpr ⟨wt_1 (List.mem_of_getElem? (i := 66) rfl), rfl⟩
theorem wq1_67 : Jvm.Cond.fieldLink "NoticeBoxes$State" (9 : Nat) "NoticeBoxes$State" "brokerCount" "I" ∈ wsA := List.mem_filter.mpr ⟨wt_1 (List.mem_of_getElem? (i := 67) rfl), rfl⟩
theorem wq1_68 : Jvm.Cond.fieldLink "NoticeBoxes" (58 : Nat) "NoticeBoxes$State" "brokerCount" "I" ∈ wsA := List.mem_filter.mpr ⟨wt_1 (List.mem_of_getElem? (i := 68) rfl), rfl⟩
theorem wq1_69 : Jvm.Cond.fieldLink "NoticeBoxes$Journey" (41 : Nat) "NoticeBoxes$State" "brokerCount" "I" ∈ wsA := List.mem_filter.mpr ⟨wt_1 (List.mem_of_getElem? (i := 69) rfl), rfl⟩
theorem wq1_70 : Jvm.Cond.fieldLink "NoticeBoxes$Tellings" (31 : Nat) "NoticeBoxes$State" "brokerCount" "I" ∈ wsA := List.mem_filter.mpr ⟨wt_1 (List.mem_of_getElem? (i := 70) rfl), rfl⟩
theorem wq1_71 : Jvm.Cond.fieldLink "NoticeBoxes$State" (35 : Nat) "NoticeBoxes$State" "clientCount" "I" ∈ wsA := List.mem_filter.mpr ⟨wt_1 (List.mem_of_getElem? (i := 71) rfl), rfl⟩
theorem wq1_72 : Jvm.Cond.fieldLink "NoticeBoxes" (62 : Nat) "NoticeBoxes$State" "clientCount" "I" ∈ wsA := List.mem_filter.mpr ⟨wt_1 (List.mem_of_getElem? (i := 72) rfl), rfl⟩
theorem wq1_73 : Jvm.Cond.fieldLink "NoticeBoxes$State" (38 : Nat) "NoticeBoxes$State" "wishCount" "I" ∈ wsA := List.mem_filter.mpr ⟨wt_1 (List.mem_of_getElem? (i := 73) rfl), rfl⟩
theorem wq1_74 : Jvm.Cond.fieldLink "NoticeBoxes" (65 : Nat) "NoticeBoxes$State" "wishCount" "I" ∈ wsA := List.mem_filter.mpr ⟨wt_1 (List.mem_of_getElem? (i := 74) rfl), rfl⟩
theorem wq1_75 : Jvm.Cond.fieldLink "NoticeBoxes$Tellings" (53 : Nat) "NoticeBoxes$State" "wishCount" "I" ∈ wsA := List.mem_filter.mpr ⟨wt_1 (List.mem_of_getElem? (i := 75) rfl), rfl⟩
theorem wq1_76 : Jvm.Cond.fieldLink "NoticeBoxes$State" (15 : Nat) "NoticeBoxes$State" "mostTold" "I" ∈ wsA := List.mem_filter.mpr ⟨wt_1 (List.mem_of_getElem? (i := 76) rfl), rfl⟩
theorem wq1_77 : Jvm.Cond.fieldLink "NoticeBoxes" (68 : Nat) "NoticeBoxes$State" "mostTold" "I" ∈ wsA := List.mem_filter.mpr ⟨wt_1 (List.mem_of_getElem? (i := 77) rfl), rfl⟩
theorem wq1_78 : Jvm.Cond.fieldLink "NoticeBoxes$Tellings" (73 : Nat) "NoticeBoxes$State" "mostTold" "I" ∈ wsA := List.mem_filter.mpr ⟨wt_1 (List.mem_of_getElem? (i := 78) rfl), rfl⟩
theorem wq1_79 : Jvm.Cond.fieldLink "NoticeBoxes$State" (41 : Nat) "NoticeBoxes$State" "nextNotice" "I" ∈ wsA := List.mem_filter.mpr ⟨wt_1 (List.mem_of_getElem? (i := 79) rfl), rfl⟩
theorem wq1_80 : Jvm.Cond.fieldLink "NoticeBoxes" (71 : Nat) "NoticeBoxes$State" "nextNotice" "I" ∈ wsA := List.mem_filter.mpr ⟨wt_1 (List.mem_of_getElem? (i := 80) rfl), rfl⟩
theorem wq1_81 : Jvm.Cond.fieldLink "NoticeBoxes$State" (44 : Nat) "NoticeBoxes$State" "linkSum" "I" ∈ wsA := List.mem_filter.mpr ⟨wt_1 (List.mem_of_getElem? (i := 81) rfl), rfl⟩
theorem wq1_82 : Jvm.Cond.fieldLink "NoticeBoxes" (82 : Nat) "NoticeBoxes$State" "linkSum" "I" ∈ wsA := List.mem_filter.mpr ⟨wt_1 (List.mem_of_getElem? (i := 82) rfl), rfl⟩
theorem wq1_83 : Jvm.Cond.fieldLink "NoticeBoxes$State" (47 : Nat) "NoticeBoxes$State" "vainSum" "I" ∈ wsA := List.mem_filter.mpr ⟨wt_1 (List.mem_of_getElem? (i := 83) rfl), rfl⟩
theorem wq1_84 : Jvm.Cond.fieldLink "NoticeBoxes" (85 : Nat) "NoticeBoxes$State" "vainSum" "I" ∈ wsA := List.mem_filter.mpr ⟨wt_1 (List.mem_of_getElem? (i := 84) rfl), rfl⟩
theorem wq1_85 : Jvm.Cond.fieldLink "NoticeBoxes$State" (18 : Nat) "NoticeBoxes$State" "above" "[I" ∈ wsA := List.mem_filter.mpr ⟨wt_1 (List.mem_of_getElem? (i := 85) rfl), rfl⟩
theorem wq1_86 : Jvm.Cond.fieldLink "NoticeBoxes$Tellings" (25 : Nat) "NoticeBoxes$State" "above" "[I" ∈ wsA := List.mem_filter.mpr ⟨wt_1 (List.mem_of_getElem? (i := 86) rfl), rfl⟩
theorem wq1_87 : Jvm.Cond.fieldLink "NoticeBoxes" (104 : Nat) "NoticeBoxes$State" "above" "[I" ∈ wsA := List.mem_filter.mpr ⟨wt_1 (List.mem_of_getElem? (i := 87) rfl), rfl⟩
theorem wq1_88 : Jvm.Cond.fieldLink "NoticeBoxes$State" (24 : Nat) "NoticeBoxes$State" "clients" "[LNoticeBoxes$Client;" ∈ wsA := List.mem_filter.mpr ⟨wt_1 (List.mem_of_getElem? (i := 88) rfl), rfl⟩
theorem wq1_89 : Jvm.Cond.fieldLink "NoticeBoxes$Book" (28 : Nat) "NoticeBoxes$State" "clients" "[LNoticeBoxes$Client;" ∈ wsA := List.mem_filter.mpr ⟨wt_1 (List.mem_of_getElem? (i := 89) rfl), rfl⟩
theorem wq1_90 : Jvm.Cond.fieldLink "NoticeBoxes" (121 : Nat) "NoticeBoxes$State" "clients" "[LNoticeBoxes$Client;" ∈ wsA := List.mem_filter.mpr ⟨wt_1 (List.mem_of_getElem? (i := 90) rfl), rfl⟩
theorem wq1_91 : Jvm.Cond.fieldLink "NoticeBoxes$State" (28 : Nat) "NoticeBoxes$State" "wishers" "[I" ∈ wsA := List.mem_filter.mpr ⟨wt_1 (List.mem_of_getElem? (i := 91) rfl), rfl⟩
theorem wq1_92 : Jvm.Cond.fieldLink "NoticeBoxes" (153 : Nat) "NoticeBoxes$State" "wishers" "[I" ∈ wsA := List.mem_filter.mpr ⟨wt_1 (List.mem_of_getElem? (i := 92) rfl), rfl⟩
theorem wq1_93 : Jvm.Cond.fieldLink "NoticeBoxes$State" (31 : Nat) "NoticeBoxes$State" "wishBoxes" "[I" ∈ wsA := List.mem_filter.mpr ⟨wt_1 (List.mem_of_getElem? (i := 93) rfl), rfl⟩
theorem wq1_94 : Jvm.Cond.fieldLink "NoticeBoxes$Tellings" (60 : Nat) "NoticeBoxes$State" "wishBoxes" "[I" ∈ wsA := List.mem_filter.mpr ⟨wt_1 (List.mem_of_getElem? (i := 94) rfl), rfl⟩
theorem wq1_95 : Jvm.Cond.fieldLink "NoticeBoxes" (156 : Nat) "NoticeBoxes$State" "wishBoxes" "[I" ∈ wsA := List.mem_filter.mpr ⟨wt_1 (List.mem_of_getElem? (i := 95) rfl), rfl⟩
theorem wq1_96 : Jvm.Cond.lays "NoticeBoxes$State" "NoticeBoxes$State" "brokerCount" "I" ∈ wsA := List.mem_filter.mpr ⟨wt_1 (List.mem_of_getElem? (i := 96) rfl), rfl⟩
theorem wq1_97 : Jvm.Cond.soleField "NoticeBoxes$State" "brokerCount" ∈ lw_tbl := wt_1 (List.mem_of_getElem? (i := 97) rfl)
theorem wq1_98 : Jvm.Cond.lays "NoticeBoxes$State" "NoticeBoxes$State" "clientCount" "I" ∈ wsA := List.mem_filter.mpr ⟨wt_1 (List.mem_of_getElem? (i := 98) rfl), rfl⟩
theorem wq1_99 : Jvm.Cond.soleField "NoticeBoxes$State" "clientCount" ∈ lw_tbl := wt_1 (List.mem_of_getElem? (i := 99) rfl)
theorem wq1_100 : Jvm.Cond.lays "NoticeBoxes$State" "NoticeBoxes$State" "wishCount" "I" ∈ wsA := List.mem_filter.mpr ⟨wt_1 (List.mem_of_getElem? (i := 100) rfl), rfl⟩
theorem wq1_101 : Jvm.Cond.soleField "NoticeBoxes$State" "wishCount" ∈ lw_tbl := wt_1 (List.mem_of_getElem? (i := 101) rfl)
theorem wq1_102 : Jvm.Cond.lays "NoticeBoxes$State" "NoticeBoxes$State" "mostTold" "I" ∈ wsA := List.mem_filter.mpr ⟨wt_1 (List.mem_of_getElem? (i := 102) rfl), rfl⟩
theorem wq1_103 : Jvm.Cond.soleField "NoticeBoxes$State" "mostTold" ∈ lw_tbl := wt_1 (List.mem_of_getElem? (i := 103) rfl)
theorem wq1_104 : Jvm.Cond.lays "NoticeBoxes$State" "NoticeBoxes$State" "nextNotice" "I" ∈ wsA := List.mem_filter.mpr ⟨wt_1 (List.mem_of_getElem? (i := 104) rfl), rfl⟩
theorem wq1_105 : Jvm.Cond.soleField "NoticeBoxes$State" "nextNotice" ∈ lw_tbl := wt_1 (List.mem_of_getElem? (i := 105) rfl)
theorem wq1_106 : Jvm.Cond.lays "NoticeBoxes$State" "NoticeBoxes$State" "linkSum" "I" ∈ wsA := List.mem_filter.mpr ⟨wt_1 (List.mem_of_getElem? (i := 106) rfl), rfl⟩
theorem wq1_107 : Jvm.Cond.soleField "NoticeBoxes$State" "linkSum" ∈ lw_tbl := wt_1 (List.mem_of_getElem? (i := 107) rfl)
theorem wq1_108 : Jvm.Cond.lays "NoticeBoxes$State" "NoticeBoxes$State" "vainSum" "I" ∈ wsA := List.mem_filter.mpr ⟨wt_1 (List.mem_of_getElem? (i := 108) rfl), rfl⟩
theorem wq1_109 : Jvm.Cond.soleField "NoticeBoxes$State" "vainSum" ∈ lw_tbl := wt_1 (List.mem_of_getElem? (i := 109) rfl)
theorem wq1_110 : Jvm.Cond.laysFinal "NoticeBoxes$State" "NoticeBoxes$State" "above" "[I" ∈ wsA := List.mem_filter.mpr ⟨wt_1 (List.mem_of_getElem? (i := 110) rfl), rfl⟩
theorem wq1_111 : Jvm.Cond.soleField "NoticeBoxes$State" "above" ∈ lw_tbl := wt_1 (List.mem_of_getElem? (i := 111) rfl)
theorem wq1_112 : Jvm.Cond.laysFinal "NoticeBoxes$State" "NoticeBoxes$State" "clients" "[LNoticeBoxes$Client;" ∈ wsA := List.mem_filter.mpr ⟨wt_1 (List.mem_of_getElem? (i := 112) rfl), rfl⟩
theorem wq1_113 : Jvm.Cond.soleField "NoticeBoxes$State" "clients" ∈ lw_tbl := wt_1 (List.mem_of_getElem? (i := 113) rfl)
theorem wq1_114 : Jvm.Cond.laysFinal "NoticeBoxes$State" "NoticeBoxes$State" "wishers" "[I" ∈ wsA := List.mem_filter.mpr ⟨wt_1 (List.mem_of_getElem? (i := 114) rfl), rfl⟩
theorem wq1_115 : Jvm.Cond.soleField "NoticeBoxes$State" "wishers" ∈ lw_tbl := wt_1 (List.mem_of_getElem? (i := 115) rfl)
theorem wq1_116 : Jvm.Cond.laysFinal "NoticeBoxes$State" "NoticeBoxes$State" "wishBoxes" "[I" ∈ wsA := List.mem_filter.mpr ⟨wt_1 (List.mem_of_getElem? (i := 116) rfl), rfl⟩
theorem wq1_117 : Jvm.Cond.soleField "NoticeBoxes$State" "wishBoxes" ∈ lw_tbl := wt_1 (List.mem_of_getElem? (i := 117) rfl)
theorem wq1_118 : Jvm.Cond.superclass "NoticeBoxes$State" "java/lang/Object" ∈ lw_tbl := wt_1 (List.mem_of_getElem? (i := 118) rfl)
theorem wq1_119 : Jvm.Cond.classLink "NoticeBoxes" (16 : Nat) "NoticeBoxes$Tellings" ∈ wsA := List.mem_filter.mpr ⟨wt_1 (List.mem_of_getElem? (i := 119) rfl), rfl⟩
theorem wq1_120 : Jvm.Cond.instantiable "NoticeBoxes$Tellings" (3 : Nat) ∈ wsA := List.mem_filter.mpr ⟨wt_1 (List.mem_of_getElem? (i := 120) rfl), rfl⟩
theorem wq1_121 : Jvm.Cond.methodLink "NoticeBoxes" (18 : Nat) ({ cls := "NoticeBoxes$Tellings", name := "<init>", desc := "()V" } : Jvm.MethodName) ∈ wsA := List.mem_filter.mpr ⟨wt_1 (List.mem_of_getElem? (i := 121) rfl), rfl⟩
theorem wq1_122 : Jvm.Cond.instanceMethod ({ cls := "NoticeBoxes$Tellings", name := "<init>", desc := "()V" } : Jvm.MethodName) ∈ wsA := List.mem_filter.mpr ⟨wt_1 (List.mem_of_getElem? (i := 122) rfl), rfl⟩
theorem wq1_123 : Jvm.Cond.code ({ cls := "NoticeBoxes$Tellings", name := "<init>", desc := "()V" } : Jvm.MethodName) prog_11_method_1_code (2 : Nat) (Option.none : Option Jvm.ClassFile.FieldType) ∈ wsA := List.mem_filter.mpr ⟨wt_1 (List.mem_of_getElem? (i := 123) rfl), rfl⟩
theorem wq1_124 : Jvm.Cond.methodLink "NoticeBoxes$Tellings" (3 : Nat) ({ cls := "java/lang/Object", name := "<init>", desc := "()V" } : Jvm.MethodName) ∈ wsA := List.mem_filter.mpr ⟨wt_1 (List.mem_of_getElem? (i := 124) rfl), rfl⟩
theorem wq1_125 : Jvm.Cond.classLink "NoticeBoxes$Tellings" (9 : Nat) "NoticeBoxes$BoxList" ∈ wsA := List.mem_filter.mpr ⟨wt_1 (List.mem_of_getElem? (i := 125) rfl), rfl⟩
theorem wq1_126 : Jvm.Cond.arrayOver (Jvm.ClassFile.FieldType.object "NoticeBoxes$BoxList") ∈ lw_tbl := wt_1 (List.mem_of_getElem? (i := 126) rfl)
theorem wq1_127 : Jvm.Cond.instantiable "NoticeBoxes$BoxList" (2 : Nat) ∈ wsA := List.mem_filter.mpr ⟨wt_1 (List.mem_of_getElem? (i := 127) rfl), rfl⟩
theorem wq1_128 : Jvm.Cond.methodLinkNest "NoticeBoxes$Tellings" (20 : Nat) ({ cls := "NoticeBoxes$BoxList", name := "<init>", desc := "()V" } : Jvm.MethodName) "NoticeBoxes" ∈ lw_tbl := wt_1 (List.mem_of_getElem? (i := 128) rfl)
theorem wq1_129 : Jvm.Cond.instanceMethod ({ cls := "NoticeBoxes$BoxList", name := "<init>", desc := "()V" } : Jvm.MethodName) ∈ wsA := List.mem_filter.mpr ⟨wt_1 (List.mem_of_getElem? (i := 129) rfl), rfl⟩
theorem wq1_130 : Jvm.Cond.code ({ cls := "NoticeBoxes$BoxList", name := "<init>", desc := "()V" } : Jvm.MethodName) prog_4_method_1_code (1 : Nat) (Option.none : Option Jvm.ClassFile.FieldType) ∈ wsA := List.mem_filter.mpr ⟨wt_1 (List.mem_of_getElem? (i := 130) rfl), rfl⟩
theorem wq1_131 : Jvm.Cond.methodLink "NoticeBoxes$BoxList" (3 : Nat) ({ cls := "java/lang/Object", name := "<init>", desc := "()V" } : Jvm.MethodName) ∈ wsA := List.mem_filter.mpr ⟨wt_1 (List.mem_of_getElem? (i := 131) rfl), rfl⟩
theorem wq1_132 : Jvm.Cond.fieldLink "NoticeBoxes$BoxList" (9 : Nat) "NoticeBoxes$BoxList" "boxes" "[I" ∈ wsA := List.mem_filter.mpr ⟨wt_1 (List.mem_of_getElem? (i := 132) rfl), rfl⟩
theorem wq1_133 : Jvm.Cond.fieldLink "NoticeBoxes$Tellings" (70 : Nat) "NoticeBoxes$BoxList" "boxes" "[I" ∈ wsA := List.mem_filter.mpr ⟨wt_1 (List.mem_of_getElem? (i := 133) rfl), rfl⟩
theorem wq1_134 : Jvm.Cond.fieldLink "NoticeBoxes" (182 : Nat) "NoticeBoxes$BoxList" "boxes" "[I" ∈ wsA := List.mem_filter.mpr ⟨wt_1 (List.mem_of_getElem? (i := 134) rfl), rfl⟩
theorem wq1_135 : Jvm.Cond.fieldLink "NoticeBoxes$BoxList" (15 : Nat) "NoticeBoxes$BoxList" "count" "I" ∈ wsA := List.mem_filter.mpr ⟨wt_1 (List.mem_of_getElem? (i := 135) rfl), rfl⟩
theorem wq1_136 : Jvm.Cond.fieldLink "NoticeBoxes$Tellings" (35 : Nat) "NoticeBoxes$BoxList" "count" "I" ∈ wsA := List.mem_filter.mpr ⟨wt_1 (List.mem_of_getElem? (i := 136) rfl), rfl⟩
theorem wq1_137 : Jvm.Cond.fieldLink "NoticeBoxes" (179 : Nat) "NoticeBoxes$BoxList" "count" "I" ∈ wsA := List.mem_filter.mpr ⟨wt_1 (List.mem_of_getElem? (i := 137) rfl), rfl⟩
theorem wq1_138 : Jvm.Cond.laysFinal "NoticeBoxes$BoxList" "NoticeBoxes$BoxList" "boxes" "[I" ∈ wsA := List.mem_filter.mpr ⟨wt_1 (List.mem_of_getElem? (i := 138) rfl), rfl⟩
theorem wq1_139 : Jvm.Cond.soleField "NoticeBoxes$BoxList" "boxes" ∈ lw_tbl := wt_1 (List.mem_of_getElem? (i := 139) rfl)
theorem wq1_140 : Jvm.Cond.lays "NoticeBoxes$BoxList" "NoticeBoxes$BoxList" "count" "I" ∈ wsA := List.mem_filter.mpr ⟨wt_1 (List.mem_of_getElem? (i := 140) rfl), rfl⟩
theorem wq1_141 : Jvm.Cond.soleField "NoticeBoxes$BoxList" "count" ∈ lw_tbl := wt_1 (List.mem_of_getElem? (i := 141) rfl)
theorem wq1_142 : Jvm.Cond.superclass "NoticeBoxes$BoxList" "java/lang/Object" ∈ lw_tbl := wt_1 (List.mem_of_getElem? (i := 142) rfl)
theorem wq1_143 : Jvm.Cond.fieldLink "NoticeBoxes$Tellings" (11 : Nat) "NoticeBoxes$Tellings" "upward" "[LNoticeBoxes$BoxList;" ∈ wsA := List.mem_filter.mpr ⟨wt_1 (List.mem_of_getElem? (i := 143) rfl), rfl⟩
theorem wq1_144 : Jvm.Cond.fieldLink "NoticeBoxes$Tellings" (17 : Nat) "NoticeBoxes$Tellings" "downward" "[LNoticeBoxes$BoxList;" ∈ wsA := List.mem_filter.mpr ⟨wt_1 (List.mem_of_getElem? (i := 144) rfl), rfl⟩
theorem wq1_145 : Jvm.Cond.fieldLink "NoticeBoxes$Tellings" (21 : Nat) "NoticeBoxes$Tellings" "fresh" "Z" ∈ wsA := List.mem_filter.mpr ⟨wt_1 (List.mem_of_getElem? (i := 145) rfl), rfl⟩
theorem wq1_146 : Jvm.Cond.laysFinal "NoticeBoxes$Tellings" "NoticeBoxes$Tellings" "upward" "[LNoticeBoxes$BoxList;" ∈ wsA := List.mem_filter.mpr ⟨wt_1 (List.mem_of_getElem? (i := 146) rfl), rfl⟩
theorem wq1_147 : Jvm.Cond.soleField "NoticeBoxes$Tellings" "upward" ∈ lw_tbl := wt_1 (List.mem_of_getElem? (i := 147) rfl)
theorem wq1_148 : Jvm.Cond.laysFinal "NoticeBoxes$Tellings" "NoticeBoxes$Tellings" "downward" "[LNoticeBoxes$BoxList;" ∈ wsA := List.mem_filter.mpr ⟨wt_1 (List.mem_of_getElem? (i := 148) rfl), rfl⟩
theorem wq1_149 : Jvm.Cond.soleField "NoticeBoxes$Tellings" "downward" ∈ lw_tbl := wt_1 (List.mem_of_getElem? (i := 149) rfl)
theorem wq1_150 : Jvm.Cond.lays "NoticeBoxes$Tellings" "NoticeBoxes$Tellings" "fresh" "Z" ∈ wsA := List.mem_filter.mpr ⟨wt_1 (List.mem_of_getElem? (i := 150) rfl), rfl⟩
theorem wq1_151 : Jvm.Cond.soleField "NoticeBoxes$Tellings" "fresh" ∈ lw_tbl := wt_1 (List.mem_of_getElem? (i := 151) rfl)
theorem wq1_152 : Jvm.Cond.superclass "NoticeBoxes$Tellings" "java/lang/Object" ∈ lw_tbl := wt_1 (List.mem_of_getElem? (i := 152) rfl)
theorem wq1_153 : Jvm.Cond.classLink "NoticeBoxes" (23 : Nat) "NoticeBoxes$Journey" ∈ wsA := List.mem_filter.mpr ⟨wt_1 (List.mem_of_getElem? (i := 153) rfl), rfl⟩
theorem wq1_154 : Jvm.Cond.instantiable "NoticeBoxes$Journey" (5 : Nat) ∈ wsA := List.mem_filter.mpr ⟨wt_1 (List.mem_of_getElem? (i := 154) rfl), rfl⟩
theorem wq1_155 : Jvm.Cond.methodLinkNest "NoticeBoxes" (25 : Nat) ({ cls := "NoticeBoxes$Journey", name := "<init>", desc := "()V" } : Jvm.MethodName) "NoticeBoxes" ∈ lw_tbl := wt_1 (List.mem_of_getElem? (i := 155) rfl)
theorem wq1_156 : Jvm.Cond.instanceMethod ({ cls := "NoticeBoxes$Journey", name := "<init>", desc := "()V" } : Jvm.MethodName) ∈ wsA := List.mem_filter.mpr ⟨wt_1 (List.mem_of_getElem? (i := 156) rfl), rfl⟩
theorem wq1_157 : Jvm.Cond.code ({ cls := "NoticeBoxes$Journey", name := "<init>", desc := "()V" } : Jvm.MethodName) prog_8_method_1_code (1 : Nat) (Option.none : Option Jvm.ClassFile.FieldType) ∈ wsA := List.mem_filter.mpr ⟨wt_1 (List.mem_of_getElem? (i := 157) rfl), rfl⟩
theorem wq1_158 : Jvm.Cond.methodLink "NoticeBoxes$Journey" (3 : Nat) ({ cls := "java/lang/Object", name := "<init>", desc := "()V" } : Jvm.MethodName) ∈ wsA := List.mem_filter.mpr ⟨wt_1 (List.mem_of_getElem? (i := 158) rfl), rfl⟩
theorem wq1_159 : Jvm.Cond.fieldLink "NoticeBoxes$Journey" (9 : Nat) "NoticeBoxes$Journey" "reached" "[I" ∈ wsA := List.mem_filter.mpr ⟨wt_1 (List.mem_of_getElem? (i := 159) rfl), rfl⟩
theorem wq1_160 : Jvm.Cond.fieldLink "NoticeBoxes$Journey" (21 : Nat) "NoticeBoxes$Journey" "places" "I" ∈ wsA := List.mem_filter.mpr ⟨wt_1 (List.mem_of_getElem? (i := 160) rfl), rfl⟩
theorem wq1_161 : Jvm.Cond.fieldLink "NoticeBoxes" (199 : Nat) "NoticeBoxes$Journey" "places" "I" ∈ wsA := List.mem_filter.mpr ⟨wt_1 (List.mem_of_getElem? (i := 161) rfl), rfl⟩
theorem wq1_162 : Jvm.Cond.fieldLink "NoticeBoxes$Journey" (25 : Nat) "NoticeBoxes$Journey" "getters" "I" ∈ wsA := List.mem_filter.mpr ⟨wt_1 (List.mem_of_getElem? (i := 162) rfl), rfl⟩
theorem wq1_163 : Jvm.Cond.fieldLink "NoticeBoxes" (202 : Nat) "NoticeBoxes$Journey" "getters" "I" ∈ wsA := List.mem_filter.mpr ⟨wt_1 (List.mem_of_getElem? (i := 163) rfl), rfl⟩
theorem wq1_164 : Jvm.Cond.fieldLink "NoticeBoxes$State" (90 : Nat) "NoticeBoxes$Journey" "getters" "I" ∈ wsA := List.mem_filter.mpr ⟨wt_1 (List.mem_of_getElem? (i := 164) rfl), rfl⟩
theorem wq1_165 : Jvm.Cond.fieldLink "NoticeBoxes$Journey" (38 : Nat) "NoticeBoxes$Journey" "vain" "I" ∈ wsA := List.mem_filter.mpr ⟨wt_1 (List.mem_of_getElem? (i := 165) rfl), rfl⟩
theorem wq1_166 : Jvm.Cond.fieldLink "NoticeBoxes" (205 : Nat) "NoticeBoxes$Journey" "vain" "I" ∈ wsA := List.mem_filter.mpr ⟨wt_1 (List.mem_of_getElem? (i := 166) rfl), rfl⟩
theorem wq1_167 : Jvm.Cond.fieldLink "NoticeBoxes$State" (101 : Nat) "NoticeBoxes$Journey" "vain" "I" ∈ wsA := List.mem_filter.mpr ⟨wt_1 (List.mem_of_getElem? (i := 167) rfl), rfl⟩
theorem wq1_168 : Jvm.Cond.fieldLink "NoticeBoxes$Journey" (28 : Nat) "NoticeBoxes$Journey" "links" "I" ∈ wsA := List.mem_filter.mpr ⟨wt_1 (List.mem_of_getElem? (i := 168) rfl), rfl⟩
theorem wq1_169 : Jvm.Cond.fieldLink "NoticeBoxes" (208 : Nat) "NoticeBoxes$Journey" "links" "I" ∈ wsA := List.mem_filter.mpr ⟨wt_1 (List.mem_of_getElem? (i := 169) rfl), rfl⟩
theorem wq1_170 : Jvm.Cond.fieldLink "NoticeBoxes$State" (98 : Nat) "NoticeBoxes$Journey" "links" "I" ∈ wsA := List.mem_filter.mpr ⟨wt_1 (List.mem_of_getElem? (i := 170) rfl), rfl⟩
theorem wq1_171 : Jvm.Cond.laysFinal "NoticeBoxes$Journey" "NoticeBoxes$Journey" "reached" "[I" ∈ wsA := List.mem_filter.mpr ⟨wt_1 (List.mem_of_getElem? (i := 171) rfl), rfl⟩
theorem wq1_172 : Jvm.Cond.soleField "NoticeBoxes$Journey" "reached" ∈ lw_tbl := wt_1 (List.mem_of_getElem? (i := 172) rfl)
theorem wq1_173 : Jvm.Cond.lays "NoticeBoxes$Journey" "NoticeBoxes$Journey" "places" "I" ∈ wsA := List.mem_filter.mpr ⟨wt_1 (List.mem_of_getElem? (i := 173) rfl), rfl⟩
theorem wq1_174 : Jvm.Cond.soleField "NoticeBoxes$Journey" "places" ∈ lw_tbl := wt_1 (List.mem_of_getElem? (i := 174) rfl)
theorem wq1_175 : Jvm.Cond.lays "NoticeBoxes$Journey" "NoticeBoxes$Journey" "getters" "I" ∈ wsA := List.mem_filter.mpr ⟨wt_1 (List.mem_of_getElem? (i := 175) rfl), rfl⟩
theorem wq1_176 : Jvm.Cond.soleField "NoticeBoxes$Journey" "getters" ∈ lw_tbl := wt_1 (List.mem_of_getElem? (i := 176) rfl)
theorem wq1_177 : Jvm.Cond.lays "NoticeBoxes$Journey" "NoticeBoxes$Journey" "vain" "I" ∈ wsA := List.mem_filter.mpr ⟨wt_1 (List.mem_of_getElem? (i := 177) rfl), rfl⟩
theorem wq1_178 : Jvm.Cond.soleField "NoticeBoxes$Journey" "vain" ∈ lw_tbl := wt_1 (List.mem_of_getElem? (i := 178) rfl)
theorem wq1_179 : Jvm.Cond.lays "NoticeBoxes$Journey" "NoticeBoxes$Journey" "links" "I" ∈ wsA := List.mem_filter.mpr ⟨wt_1 (List.mem_of_getElem? (i := 179) rfl), rfl⟩
theorem wq1_180 : Jvm.Cond.soleField "NoticeBoxes$Journey" "links" ∈ lw_tbl := wt_1 (List.mem_of_getElem? (i := 180) rfl)
theorem wq1_181 : Jvm.Cond.superclass "NoticeBoxes$Journey" "java/lang/Object" ∈ lw_tbl := wt_1 (List.mem_of_getElem? (i := 181) rfl)
theorem wq1_182 : Jvm.Cond.classLink "NoticeBoxes" (30 : Nat) "NoticeBoxes$Past" ∈ wsA := List.mem_filter.mpr ⟨wt_1 (List.mem_of_getElem? (i := 182) rfl), rfl⟩
theorem wq1_183 : Jvm.Cond.instantiable "NoticeBoxes$Past" (3 : Nat) ∈ wsA := List.mem_filter.mpr ⟨wt_1 (List.mem_of_getElem? (i := 183) rfl), rfl⟩
theorem wq1_184 : Jvm.Cond.methodLink "NoticeBoxes" (32 : Nat) ({ cls := "NoticeBoxes$Past", name := "<init>", desc := "()V" } : Jvm.MethodName) ∈ wsA := List.mem_filter.mpr ⟨wt_1 (List.mem_of_getElem? (i := 184) rfl), rfl⟩
theorem wq1_185 : Jvm.Cond.instanceMethod ({ cls := "NoticeBoxes$Past", name := "<init>", desc := "()V" } : Jvm.MethodName) ∈ wsA := List.mem_filter.mpr ⟨wt_1 (List.mem_of_getElem? (i := 185) rfl), rfl⟩
theorem wq1_186 : Jvm.Cond.code ({ cls := "NoticeBoxes$Past", name := "<init>", desc := "()V" } : Jvm.MethodName) prog_9_method_1_code (2 : Nat) (Option.none : Option Jvm.ClassFile.FieldType) ∈ wsA := List.mem_filter.mpr ⟨wt_1 (List.mem_of_getElem? (i := 186) rfl), rfl⟩
theorem wq1_187 : Jvm.Cond.methodLink "NoticeBoxes$Past" (3 : Nat) ({ cls := "java/lang/Object", name := "<init>", desc := "()V" } : Jvm.MethodName) ∈ wsA := List.mem_filter.mpr ⟨wt_1 (List.mem_of_getElem? (i := 187) rfl), rfl⟩
theorem wq1_188 : Jvm.Cond.classLink "NoticeBoxes$Past" (9 : Nat) "NoticeBoxes$State" ∈ wsA := List.mem_filter.mpr ⟨wt_1 (List.mem_of_getElem? (i := 188) rfl), rfl⟩
theorem wq1_189 : Jvm.Cond.arrayOver (Jvm.ClassFile.FieldType.object "NoticeBoxes$State") ∈ lw_tbl := wt_1 (List.mem_of_getElem? (i := 189) rfl)
theorem wq1_190 : Jvm.Cond.methodLink "NoticeBoxes$Past" (17 : Nat) ({ cls := "NoticeBoxes$State", name := "<init>", desc := "()V" } : Jvm.MethodName) ∈ wsA := List.mem_filter.mpr ⟨wt_1 (List.mem_of_getElem? (i := 190) rfl), rfl⟩
theorem wq1_191 : Jvm.Cond.fieldLink "NoticeBoxes$Past" (11 : Nat) "NoticeBoxes$Past" "ring" "[LNoticeBoxes$State;" ∈ wsA := List.mem_filter.mpr ⟨wt_1 (List.mem_of_getElem? (i := 191) rfl), rfl⟩
theorem wq1_192 : Jvm.Cond.fieldLink "NoticeBoxes$Past" (22 : Nat) "NoticeBoxes$Past" "first" "I" ∈ wsA := List.mem_filter.mpr ⟨wt_1 (List.mem_of_getElem? (i := 192) rfl), rfl⟩
theorem wq1_193 : Jvm.Cond.fieldLink "NoticeBoxes$Past" (18 : Nat) "NoticeBoxes$Past" "count" "I" ∈ wsA := List.mem_filter.mpr ⟨wt_1 (List.mem_of_getElem? (i := 193) rfl), rfl⟩
theorem wq1_194 : Jvm.Cond.fieldLink "NoticeBoxes" (94 : Nat) "NoticeBoxes$Past" "count" "I" ∈ wsA := List.mem_filter.mpr ⟨wt_1 (List.mem_of_getElem? (i := 194) rfl), rfl⟩
theorem wq1_195 : Jvm.Cond.laysFinal "NoticeBoxes$Past" "NoticeBoxes$Past" "ring" "[LNoticeBoxes$State;" ∈ wsA := List.mem_filter.mpr ⟨wt_1 (List.mem_of_getElem? (i := 195) rfl), rfl⟩
theorem wq1_196 : Jvm.Cond.soleField "NoticeBoxes$Past" "ring" ∈ lw_tbl := wt_1 (List.mem_of_getElem? (i := 196) rfl)
theorem wq1_197 : Jvm.Cond.lays "NoticeBoxes$Past" "NoticeBoxes$Past" "first" "I" ∈ wsA := List.mem_filter.mpr ⟨wt_1 (List.mem_of_getElem? (i := 197) rfl), rfl⟩
theorem wq1_198 : Jvm.Cond.soleField "NoticeBoxes$Past" "first" ∈ lw_tbl := wt_1 (List.mem_of_getElem? (i := 198) rfl)
theorem wq1_199 : Jvm.Cond.lays "NoticeBoxes$Past" "NoticeBoxes$Past" "count" "I" ∈ wsA := List.mem_filter.mpr ⟨wt_1 (List.mem_of_getElem? (i := 199) rfl), rfl⟩
theorem wq1_200 : Jvm.Cond.soleField "NoticeBoxes$Past" "count" ∈ lw_tbl := wt_1 (List.mem_of_getElem? (i := 200) rfl)
theorem wq1_201 : Jvm.Cond.superclass "NoticeBoxes$Past" "java/lang/Object" ∈ lw_tbl := wt_1 (List.mem_of_getElem? (i := 201) rfl)
theorem wq1_202 : Jvm.Cond.classLink "NoticeBoxes" (37 : Nat) "NoticeBoxes$Book" ∈ wsA := List.mem_filter.mpr ⟨wt_1 (List.mem_of_getElem? (i := 202) rfl), rfl⟩
theorem wq1_203 : Jvm.Cond.instantiable "NoticeBoxes$Book" (3 : Nat) ∈ wsA := List.mem_filter.mpr ⟨wt_1 (List.mem_of_getElem? (i := 203) rfl), rfl⟩
theorem wq1_204 : Jvm.Cond.methodLinkNest "NoticeBoxes" (39 : Nat) ({ cls := "NoticeBoxes$Book", name := "<init>", desc := "()V" } : Jvm.MethodName) "NoticeBoxes" ∈ lw_tbl := wt_1 (List.mem_of_getElem? (i := 204) rfl)
theorem wq1_205 : Jvm.Cond.instanceMethod ({ cls := "NoticeBoxes$Book", name := "<init>", desc := "()V" } : Jvm.MethodName) ∈ wsA := List.mem_filter.mpr ⟨wt_1 (List.mem_of_getElem? (i := 205) rfl), rfl⟩
theorem wq1_206 : Jvm.Cond.code ({ cls := "NoticeBoxes$Book", name := "<init>", desc := "()V" } : Jvm.MethodName) prog_2_method_1_code (1 : Nat) (Option.none : Option Jvm.ClassFile.FieldType) ∈ wsA := List.mem_filter.mpr ⟨wt_1 (List.mem_of_getElem? (i := 206) rfl), rfl⟩
theorem wq1_207 : Jvm.Cond.methodLink "NoticeBoxes$Book" (3 : Nat) ({ cls := "java/lang/Object", name := "<init>", desc := "()V" } : Jvm.MethodName) ∈ wsA := List.mem_filter.mpr ⟨wt_1 (List.mem_of_getElem? (i := 207) rfl), rfl⟩
theorem wq1_208 : Jvm.Cond.fieldLink "NoticeBoxes$Book" (9 : Nat) "NoticeBoxes$Book" "clientNumbers" "[I" ∈ wsA := List.mem_filter.mpr ⟨wt_1 (List.mem_of_getElem? (i := 208) rfl), rfl⟩
theorem wq1_209 : Jvm.Cond.fieldLink "NoticeBoxes$Book" (15 : Nat) "NoticeBoxes$Book" "hads" "[I" ∈ wsA := List.mem_filter.mpr ⟨wt_1 (List.mem_of_getElem? (i := 209) rfl), rfl⟩
theorem wq1_210 : Jvm.Cond.fieldLink "NoticeBoxes$Book" (18 : Nat) "NoticeBoxes$Book" "count" "I" ∈ wsA := List.mem_filter.mpr ⟨wt_1 (List.mem_of_getElem? (i := 210) rfl), rfl⟩
theorem wq1_211 : Jvm.Cond.fieldLink "NoticeBoxes" (88 : Nat) "NoticeBoxes$Book" "count" "I" ∈ wsA := List.mem_filter.mpr ⟨wt_1 (List.mem_of_getElem? (i := 211) rfl), rfl⟩
theorem wq1_212 : Jvm.Cond.laysFinal "NoticeBoxes$Book" "NoticeBoxes$Book" "clientNumbers" "[I" ∈ wsA := List.mem_filter.mpr ⟨wt_1 (List.mem_of_getElem? (i := 212) rfl), rfl⟩
theorem wq1_213 : Jvm.Cond.soleField "NoticeBoxes$Book" "clientNumbers" ∈ lw_tbl := wt_1 (List.mem_of_getElem? (i := 213) rfl)
theorem wq1_214 : Jvm.Cond.laysFinal "NoticeBoxes$Book" "NoticeBoxes$Book" "hads" "[I" ∈ wsA := List.mem_filter.mpr ⟨wt_1 (List.mem_of_getElem? (i := 214) rfl), rfl⟩
theorem wq1_215 : Jvm.Cond.soleField "NoticeBoxes$Book" "hads" ∈ lw_tbl := wt_1 (List.mem_of_getElem? (i := 215) rfl)
theorem wq1_216 : Jvm.Cond.lays "NoticeBoxes$Book" "NoticeBoxes$Book" "count" "I" ∈ wsA := List.mem_filter.mpr ⟨wt_1 (List.mem_of_getElem? (i := 216) rfl), rfl⟩
theorem wq1_217 : Jvm.Cond.soleField "NoticeBoxes$Book" "count" ∈ lw_tbl := wt_1 (List.mem_of_getElem? (i := 217) rfl)
theorem wq1_218 : Jvm.Cond.superclass "NoticeBoxes$Book" "java/lang/Object" ∈ lw_tbl := wt_1 (List.mem_of_getElem? (i := 218) rfl)
theorem wq1_219 : Jvm.Cond.classLink "NoticeBoxes" (44 : Nat) "NoticeBoxes$Draws" ∈ wsA := List.mem_filter.mpr ⟨wt_1 (List.mem_of_getElem? (i := 219) rfl), rfl⟩
theorem wq1_220 : Jvm.Cond.instantiable "NoticeBoxes$Draws" (1 : Nat) ∈ wsA := List.mem_filter.mpr ⟨wt_1 (List.mem_of_getElem? (i := 220) rfl), rfl⟩
theorem wq1_221 : Jvm.Cond.methodLinkNest "NoticeBoxes" (46 : Nat) ({ cls := "NoticeBoxes$Draws", name := "<init>", desc := "()V" } : Jvm.MethodName) "NoticeBoxes" ∈ lw_tbl := wt_1 (List.mem_of_getElem? (i := 221) rfl)
theorem wq1_222 : Jvm.Cond.instanceMethod ({ cls := "NoticeBoxes$Draws", name := "<init>", desc := "()V" } : Jvm.MethodName) ∈ wsA := List.mem_filter.mpr ⟨wt_1 (List.mem_of_getElem? (i := 222) rfl), rfl⟩
theorem wq1_223 : Jvm.Cond.code ({ cls := "NoticeBoxes$Draws", name := "<init>", desc := "()V" } : Jvm.MethodName) prog_6_method_1_code (1 : Nat) (Option.none : Option Jvm.ClassFile.FieldType) ∈ wsA := List.mem_filter.mpr ⟨wt_1 (List.mem_of_getElem? (i := 223) rfl), rfl⟩
theorem wq1_224 : Jvm.Cond.methodLink "NoticeBoxes$Draws" (1 : Nat) ({ cls := "java/lang/Object", name := "<init>", desc := "()V" } : Jvm.MethodName) ∈ wsA := List.mem_filter.mpr ⟨wt_1 (List.mem_of_getElem? (i := 224) rfl), rfl⟩
theorem wq1_225 : Jvm.Cond.fieldLink "NoticeBoxes$Draws" (7 : Nat) "NoticeBoxes$Draws" "value" "I" ∈ wsA := List.mem_filter.mpr ⟨wt_1 (List.mem_of_getElem? (i := 225) rfl), rfl⟩
theorem wq1_226 : Jvm.Cond.fieldLink "NoticeBoxes$Image" (20 : Nat) "NoticeBoxes$Draws" "value" "I" ∈ wsA := List.mem_filter.mpr ⟨wt_1 (List.mem_of_getElem? (i := 226) rfl), rfl⟩
theorem wq1_227 : Jvm.Cond.fieldLink "NoticeBoxes" (95 : Nat) "NoticeBoxes$Draws" "value" "I" ∈ wsA := List.mem_filter.mpr ⟨wt_1 (List.mem_of_getElem? (i := 227) rfl), rfl⟩
theorem wq1_228 : Jvm.Cond.lays "NoticeBoxes$Draws" "NoticeBoxes$Draws" "value" "I" ∈ wsA := List.mem_filter.mpr ⟨wt_1 (List.mem_of_getElem? (i := 228) rfl), rfl⟩
theorem wq1_229 : Jvm.Cond.soleField "NoticeBoxes$Draws" "value" ∈ lw_tbl := wt_1 (List.mem_of_getElem? (i := 229) rfl)
theorem wq1_230 : Jvm.Cond.superclass "NoticeBoxes$Draws" "java/lang/Object" ∈ lw_tbl := wt_1 (List.mem_of_getElem? (i := 230) rfl)
theorem wq1_231 : Jvm.Cond.classLink "NoticeBoxes" (51 : Nat) "NoticeBoxes$Image" ∈ wsA := List.mem_filter.mpr ⟨wt_1 (List.mem_of_getElem? (i := 231) rfl), rfl⟩
theorem wq1_232 : Jvm.Cond.arrayOver (Jvm.ClassFile.FieldType.object "NoticeBoxes$Image") ∈ lw_tbl := wt_1 (List.mem_of_getElem? (i := 232) rfl)
theorem wq1_233 : Jvm.Cond.instantiable "NoticeBoxes$Image" (3 : Nat) ∈ wsA := List.mem_filter.mpr ⟨wt_1 (List.mem_of_getElem? (i := 233) rfl), rfl⟩
theorem wq1_234 : Jvm.Cond.methodLinkNest "NoticeBoxes" (57 : Nat) ({ cls := "NoticeBoxes$Image", name := "<init>", desc := "()V" } : Jvm.MethodName) "NoticeBoxes" ∈ lw_tbl := wt_1 (List.mem_of_getElem? (i := 234) rfl)
theorem wq1_235 : Jvm.Cond.instanceMethod ({ cls := "NoticeBoxes$Image", name := "<init>", desc := "()V" } : Jvm.MethodName) ∈ wsA := List.mem_filter.mpr ⟨wt_1 (List.mem_of_getElem? (i := 235) rfl), rfl⟩
theorem wq1_236 : Jvm.Cond.code ({ cls := "NoticeBoxes$Image", name := "<init>", desc := "()V" } : Jvm.MethodName) prog_7_method_1_code (1 : Nat) (Option.none : Option Jvm.ClassFile.FieldType) ∈ wsA := List.mem_filter.mpr ⟨wt_1 (List.mem_of_getElem? (i := 236) rfl), rfl⟩
theorem wq1_237 : Jvm.Cond.methodLink "NoticeBoxes$Image" (1 : Nat) ({ cls := "java/lang/Object", name := "<init>", desc := "()V" } : Jvm.MethodName) ∈ wsA := List.mem_filter.mpr ⟨wt_1 (List.mem_of_getElem? (i := 237) rfl), rfl⟩
theorem wq1_238 : Jvm.Cond.classLink "NoticeBoxes$Image" (7 : Nat) "NoticeBoxes$State" ∈ wsA := List.mem_filter.mpr ⟨wt_1 (List.mem_of_getElem? (i := 238) rfl), rfl⟩
theorem wq1_239 : Jvm.Cond.methodLink "NoticeBoxes$Image" (9 : Nat) ({ cls := "NoticeBoxes$State", name := "<init>", desc := "()V" } : Jvm.MethodName) ∈ wsA := List.mem_filter.mpr ⟨wt_1 (List.mem_of_getElem? (i := 239) rfl), rfl⟩
theorem wq2_0 : Jvm.Cond.fieldLink "NoticeBoxes$Image" (10 : Nat) "NoticeBoxes$Image" "state" "LNoticeBoxes$State;" ∈ wsA := List.mem_filter.mpr ⟨wt_2 (List.mem_of_getElem? (i := 0) rfl), rfl⟩
theorem wq2_1 : Jvm.Cond.fieldLink "NoticeBoxes$Image" (26 : Nat) "NoticeBoxes$Image" "seedValue" "I" ∈ wsA := List.mem_filter.mpr ⟨wt_2 (List.mem_of_getElem? (i := 1) rfl), rfl⟩
theorem wq2_2 : Jvm.Cond.fieldLink "NoticeBoxes$Image" (29 : Nat) "NoticeBoxes$Image" "taken" "Z" ∈ wsA := List.mem_filter.mpr ⟨wt_2 (List.mem_of_getElem? (i := 2) rfl), rfl⟩
theorem wq2_3 : Jvm.Cond.fieldLink "NoticeBoxes" (265 : Nat) "NoticeBoxes$Image" "taken" "Z" ∈ wsA := List.mem_filter.mpr ⟨wt_2 (List.mem_of_getElem? (i := 3) rfl), rfl⟩
theorem wq2_4 : Jvm.Cond.laysFinal "NoticeBoxes$Image" "NoticeBoxes$Image" "state" "LNoticeBoxes$State;" ∈ wsA := List.mem_filter.mpr ⟨wt_2 (List.mem_of_getElem? (i := 4) rfl), rfl⟩
theorem wq2_5 : Jvm.Cond.soleField "NoticeBoxes$Image" "state" ∈ lw_tbl := wt_2 (List.mem_of_getElem? (i := 5) rfl)
theorem wq2_6 : Jvm.Cond.lays "NoticeBoxes$Image" "NoticeBoxes$Image" "seedValue" "I" ∈ wsA := List.mem_filter.mpr ⟨wt_2 (List.mem_of_getElem? (i := 6) rfl), rfl⟩
theorem wq2_7 : Jvm.Cond.soleField "NoticeBoxes$Image" "seedValue" ∈ lw_tbl := wt_2 (List.mem_of_getElem? (i := 7) rfl)
theorem wq2_8 : Jvm.Cond.lays "NoticeBoxes$Image" "NoticeBoxes$Image" "taken" "Z" ∈ wsA := List.mem_filter.mpr ⟨wt_2 (List.mem_of_getElem? (i := 8) rfl), rfl⟩
theorem wq2_9 : Jvm.Cond.soleField "NoticeBoxes$Image" "taken" ∈ lw_tbl := wt_2 (List.mem_of_getElem? (i := 9) rfl)
theorem wq2_10 : Jvm.Cond.superclass "NoticeBoxes$Image" "java/lang/Object" ∈ lw_tbl := wt_2 (List.mem_of_getElem? (i := 10) rfl)
theorem wq2_11 : Jvm.Cond.fieldLink "NoticeBoxes" (10 : Nat) "NoticeBoxes" "now" "LNoticeBoxes$State;" ∈ wsA := List.mem_filter.mpr ⟨wt_2 (List.mem_of_getElem? (i := 11) rfl), rfl⟩
theorem wq2_12 : Jvm.Cond.fieldLink "NoticeBoxes" (19 : Nat) "NoticeBoxes" "tellings" "LNoticeBoxes$Tellings;" ∈ wsA := List.mem_filter.mpr ⟨wt_2 (List.mem_of_getElem? (i := 12) rfl), rfl⟩
theorem wq2_13 : Jvm.Cond.fieldLink "NoticeBoxes" (26 : Nat) "NoticeBoxes" "journey" "LNoticeBoxes$Journey;" ∈ wsA := List.mem_filter.mpr ⟨wt_2 (List.mem_of_getElem? (i := 13) rfl), rfl⟩
theorem wq2_14 : Jvm.Cond.fieldLink "NoticeBoxes" (33 : Nat) "NoticeBoxes" "past" "LNoticeBoxes$Past;" ∈ wsA := List.mem_filter.mpr ⟨wt_2 (List.mem_of_getElem? (i := 14) rfl), rfl⟩
theorem wq2_15 : Jvm.Cond.fieldLink "NoticeBoxes" (40 : Nat) "NoticeBoxes" "book" "LNoticeBoxes$Book;" ∈ wsA := List.mem_filter.mpr ⟨wt_2 (List.mem_of_getElem? (i := 15) rfl), rfl⟩
theorem wq2_16 : Jvm.Cond.fieldLink "NoticeBoxes" (47 : Nat) "NoticeBoxes" "draws" "LNoticeBoxes$Draws;" ∈ wsA := List.mem_filter.mpr ⟨wt_2 (List.mem_of_getElem? (i := 16) rfl), rfl⟩
theorem wq2_17 : Jvm.Cond.fieldLink "NoticeBoxes" (53 : Nat) "NoticeBoxes" "images" "[LNoticeBoxes$Image;" ∈ wsA := List.mem_filter.mpr ⟨wt_2 (List.mem_of_getElem? (i := 17) rfl), rfl⟩
theorem wq2_18 : Jvm.Cond.laysFinal "NoticeBoxes" "NoticeBoxes" "now" "LNoticeBoxes$State;" ∈ wsA := List.mem_filter.mpr ⟨wt_2 (List.mem_of_getElem? (i := 18) rfl), rfl⟩
theorem wq2_19 : Jvm.Cond.soleField "NoticeBoxes" "now" ∈ lw_tbl := wt_2 (List.mem_of_getElem? (i := 19) rfl)
theorem wq2_20 : Jvm.Cond.laysFinal "NoticeBoxes" "NoticeBoxes" "tellings" "LNoticeBoxes$Tellings;" ∈ wsA := List.mem_filter.mpr ⟨wt_2 (List.mem_of_getElem? (i := 20) rfl), rfl⟩
theorem wq2_21 : Jvm.Cond.soleField "NoticeBoxes" "tellings" ∈ lw_tbl := wt_2 (List.mem_of_getElem? (i := 21) rfl)
theorem wq2_22 : Jvm.Cond.laysFinal "NoticeBoxes" "NoticeBoxes" "journey" "LNoticeBoxes$Journey;" ∈ wsA := List.mem_filter.mpr ⟨wt_2 (List.mem_of_getElem? (i := 22) rfl), rfl⟩
theorem wq2_23 : Jvm.Cond.soleField "NoticeBoxes" "journey" ∈ lw_tbl := wt_2 (List.mem_of_getElem? (i := 23) rfl)
theorem wq2_24 : Jvm.Cond.laysFinal "NoticeBoxes" "NoticeBoxes" "past" "LNoticeBoxes$Past;" ∈ wsA := List.mem_filter.mpr ⟨wt_2 (List.mem_of_getElem? (i := 24) rfl), rfl⟩
theorem wq2_25 : Jvm.Cond.soleField "NoticeBoxes" "past" ∈ lw_tbl := wt_2 (List.mem_of_getElem? (i := 25) rfl)
theorem wq2_26 : Jvm.Cond.laysFinal "NoticeBoxes" "NoticeBoxes" "book" "LNoticeBoxes$Book;" ∈ wsA := List.mem_filter.mpr ⟨wt_2 (List.mem_of_getElem? (i := 26) rfl), rfl⟩
theorem wq2_27 : Jvm.Cond.soleField "NoticeBoxes" "book" ∈ lw_tbl := wt_2 (List.mem_of_getElem? (i := 27) rfl)
theorem wq2_28 : Jvm.Cond.laysFinal "NoticeBoxes" "NoticeBoxes" "draws" "LNoticeBoxes$Draws;" ∈ wsA := List.mem_filter.mpr ⟨wt_2 (List.mem_of_getElem? (i := 28) rfl), rfl⟩
theorem wq2_29 : Jvm.Cond.soleField "NoticeBoxes" "draws" ∈ lw_tbl := wt_2 (List.mem_of_getElem? (i := 29) rfl)
theorem wq2_30 : Jvm.Cond.laysFinal "NoticeBoxes" "NoticeBoxes" "images" "[LNoticeBoxes$Image;" ∈ wsA := List.mem_filter.mpr ⟨wt_2 (List.mem_of_getElem? (i := 30) rfl), rfl⟩
theorem wq2_31 : Jvm.Cond.soleField "NoticeBoxes" "images" ∈ lw_tbl := wt_2 (List.mem_of_getElem? (i := 31) rfl)
theorem wq2_32 : Jvm.Cond.superclass "NoticeBoxes" "java/lang/Object" ∈ lw_tbl := wt_2 (List.mem_of_getElem? (i := 32) rfl)
theorem wq2_33 : Jvm.Cond.methodLink "NoticeBoxesLaw" (13 : Nat) ({ cls := "NoticeBoxes", name := "told", desc := "(I)I" } : Jvm.MethodName) ∈ wsA := List.mem_filter.mpr ⟨wt_2 (List.mem_of_getElem? (i := 33) rfl), rfl⟩
theorem wq2_34 : Jvm.Cond.instanceMethod ({ cls := "NoticeBoxes", name := "told", desc := "(I)I" } : Jvm.MethodName) ∈ wsA := List.mem_filter.mpr ⟨wt_2 (List.mem_of_getElem? (i := 34) rfl), rfl⟩
theorem wq2_35 : Jvm.Cond.selects "NoticeBoxes" ({ cls := "NoticeBoxes", name := "told", desc := "(I)I" } : Jvm.MethodName) ({ cls := "NoticeBoxes", name := "told", desc := "(I)I" } : Jvm.MethodName) ∈ wsA := List.mem_filter.mpr ⟨wt_2 (List.mem_of_getElem? (i := 35) rfl), rfl⟩
theorem wq2_36 : Jvm.Cond.code ({ cls := "NoticeBoxes", name := "told", desc := "(I)I" } : Jvm.MethodName) prog_1_method_2_code (2 : Nat) (Option.some Jvm.ClassFile.FieldType.int) ∈ wsA := List.mem_filter.mpr ⟨wt_2 (List.mem_of_getElem? (i := 36) rfl), rfl⟩
theorem wq2_37 : Jvm.Cond.methodLink "NoticeBoxes" (74 : Nat) ({ cls := "NoticeBoxes$Tellings", name := "refresh", desc := "(LNoticeBoxes$State;)V" } : Jvm.MethodName) ∈ wsA := List.mem_filter.mpr ⟨wt_2 (List.mem_of_getElem? (i := 37) rfl), rfl⟩
theorem wq2_38 : Jvm.Cond.instanceMethod ({ cls := "NoticeBoxes$Tellings", name := "refresh", desc := "(LNoticeBoxes$State;)V" } : Jvm.MethodName) ∈ wsA := List.mem_filter.mpr ⟨wt_2 (List.mem_of_getElem? (i := 38) rfl), rfl⟩
theorem wq2_39 : Jvm.Cond.selects "NoticeBoxes$Tellings" ({ cls := "NoticeBoxes$Tellings", name := "refresh", desc := "(LNoticeBoxes$State;)V" } : Jvm.MethodName) ({ cls := "NoticeBoxes$Tellings", name := "refresh", desc := "(LNoticeBoxes$State;)V" } : Jvm.MethodName) ∈ wsA := List.mem_filter.mpr ⟨wt_2 (List.mem_of_getElem? (i := 39) rfl), rfl⟩
theorem wq2_40 : Jvm.Cond.code ({ cls := "NoticeBoxes$Tellings", name := "refresh", desc := "(LNoticeBoxes$State;)V" } : Jvm.MethodName) prog_11_method_5_code (3 : Nat) (Option.none : Option Jvm.ClassFile.FieldType) ∈ wsA := List.mem_filter.mpr ⟨wt_2 (List.mem_of_getElem? (i := 40) rfl), rfl⟩
theorem wq2_41 : Jvm.Cond.methodLink "NoticeBoxes$Tellings" (38 : Nat) ({ cls := "NoticeBoxes$Tellings", name := "gather", desc := "(LNoticeBoxes$State;II)V" } : Jvm.MethodName) ∈ wsA := List.mem_filter.mpr ⟨wt_2 (List.mem_of_getElem? (i := 41) rfl), rfl⟩
theorem wq2_42 : Jvm.Cond.privateMethod ({ cls := "NoticeBoxes$Tellings", name := "gather", desc := "(LNoticeBoxes$State;II)V" } : Jvm.MethodName) ∈ lw_tbl := wt_2 (List.mem_of_getElem? (i := 42) rfl)
theorem wq2_43 : Jvm.Cond.instanceMethod ({ cls := "NoticeBoxes$Tellings", name := "gather", desc := "(LNoticeBoxes$State;II)V" } : Jvm.MethodName) ∈ wsA := List.mem_filter.mpr ⟨wt_2 (List.mem_of_getElem? (i := 43) rfl), rfl⟩
theorem wq2_44 : Jvm.Cond.code ({ cls := "NoticeBoxes$Tellings", name := "gather", desc := "(LNoticeBoxes$State;II)V" } : Jvm.MethodName) prog_11_method_6_code (9 : Nat) (Option.none : Option Jvm.ClassFile.FieldType) ∈ wsA := List.mem_filter.mpr ⟨wt_2 (List.mem_of_getElem? (i := 44) rfl), rfl⟩
theorem wq2_45 : Jvm.Cond.methodLink "NoticeBoxes$Tellings" (42 : Nat) ({ cls := "NoticeBoxes$Tellings", name := "between", desc := "(LNoticeBoxes$State;II)LNoticeBoxes$BoxList;" } : Jvm.MethodName) ∈ wsA := List.mem_filter.mpr ⟨wt_2 (List.mem_of_getElem? (i := 45) rfl), rfl⟩
theorem wq2_46 : Jvm.Cond.instanceMethod ({ cls := "NoticeBoxes$Tellings", name := "between", desc := "(LNoticeBoxes$State;II)LNoticeBoxes$BoxList;" } : Jvm.MethodName) ∈ wsA := List.mem_filter.mpr ⟨wt_2 (List.mem_of_getElem? (i := 46) rfl), rfl⟩
theorem wq2_47 : Jvm.Cond.selects "NoticeBoxes$Tellings" ({ cls := "NoticeBoxes$Tellings", name := "between", desc := "(LNoticeBoxes$State;II)LNoticeBoxes$BoxList;" } : Jvm.MethodName) ({ cls := "NoticeBoxes$Tellings", name := "between", desc := "(LNoticeBoxes$State;II)LNoticeBoxes$BoxList;" } : Jvm.MethodName) ∈ wsA := List.mem_filter.mpr ⟨wt_2 (List.mem_of_getElem? (i := 47) rfl), rfl⟩
theorem wq2_48 : Jvm.Cond.code ({ cls := "NoticeBoxes$Tellings", name := "between", desc := "(LNoticeBoxes$State;II)LNoticeBoxes$BoxList;" } : Jvm.MethodName) prog_11_method_3_code (4 : Nat) (Option.some (Jvm.ClassFile.FieldType.object "NoticeBoxes$BoxList")) ∈ wsA := List.mem_filter.mpr ⟨wt_2 (List.mem_of_getElem? (i := 48) rfl), rfl⟩
theorem wq2_49 : Jvm.Cond.methodLink "NoticeBoxes$Tellings" (46 : Nat) ({ cls := "NoticeBoxes$State", name := "clientsHomeAt", desc := "(I)I" } : Jvm.MethodName) ∈ wsA := List.mem_filter.mpr ⟨wt_2 (List.mem_of_getElem? (i := 49) rfl), rfl⟩
theorem wq2_50 : Jvm.Cond.instanceMethod ({ cls := "NoticeBoxes$State", name := "clientsHomeAt", desc := "(I)I" } : Jvm.MethodName) ∈ wsA := List.mem_filter.mpr ⟨wt_2 (List.mem_of_getElem? (i := 50) rfl), rfl⟩
theorem wq2_51 : Jvm.Cond.selects "NoticeBoxes$State" ({ cls := "NoticeBoxes$State", name := "clientsHomeAt", desc := "(I)I" } : Jvm.MethodName) ({ cls := "NoticeBoxes$State", name := "clientsHomeAt", desc := "(I)I" } : Jvm.MethodName) ∈ wsA := List.mem_filter.mpr ⟨wt_2 (List.mem_of_getElem? (i := 51) rfl), rfl⟩
theorem wq2_52 : Jvm.Cond.code ({ cls := "NoticeBoxes$State", name := "clientsHomeAt", desc := "(I)I" } : Jvm.MethodName) prog_10_method_8_code (4 : Nat) (Option.some Jvm.ClassFile.FieldType.int) ∈ wsA := List.mem_filter.mpr ⟨wt_2 (List.mem_of_getElem? (i := 52) rfl), rfl⟩
theorem wq2_53 : Jvm.Cond.methodLink "NoticeBoxes$Tellings" (50 : Nat) ({ cls := "NoticeBoxes$State", name := "wishesOf", desc := "(I)I" } : Jvm.MethodName) ∈ wsA := List.mem_filter.mpr ⟨wt_2 (List.mem_of_getElem? (i := 53) rfl), rfl⟩
theorem wq2_54 : Jvm.Cond.instanceMethod ({ cls := "NoticeBoxes$State", name := "wishesOf", desc := "(I)I" } : Jvm.MethodName) ∈ wsA := List.mem_filter.mpr ⟨wt_2 (List.mem_of_getElem? (i := 54) rfl), rfl⟩
theorem wq2_55 : Jvm.Cond.selects "NoticeBoxes$State" ({ cls := "NoticeBoxes$State", name := "wishesOf", desc := "(I)I" } : Jvm.MethodName) ({ cls := "NoticeBoxes$State", name := "wishesOf", desc := "(I)I" } : Jvm.MethodName) ∈ wsA := List.mem_filter.mpr ⟨wt_2 (List.mem_of_getElem? (i := 55) rfl), rfl⟩
theorem wq2_56 : Jvm.Cond.code ({ cls := "NoticeBoxes$State", name := "wishesOf", desc := "(I)I" } : Jvm.MethodName) prog_10_method_9_code (4 : Nat) (Option.some Jvm.ClassFile.FieldType.int) ∈ wsA := List.mem_filter.mpr ⟨wt_2 (List.mem_of_getElem? (i := 56) rfl), rfl⟩
theorem wq2_57 : Jvm.Cond.methodLinkNest "NoticeBoxes$State" (75 : Nat) ({ cls := "NoticeBoxes", name := "holds", desc := "(II)Z" } : Jvm.MethodName) "NoticeBoxes" ∈ lw_tbl := wt_2 (List.mem_of_getElem? (i := 57) rfl)
theorem wq2_58 : Jvm.Cond.static ({ cls := "NoticeBoxes", name := "holds", desc := "(II)Z" } : Jvm.MethodName) ∈ wsA := List.mem_filter.mpr ⟨wt_2 (List.mem_of_getElem? (i := 58) rfl), rfl⟩
theorem wq2_59 : Jvm.Cond.code ({ cls := "NoticeBoxes", name := "holds", desc := "(II)Z" } : Jvm.MethodName) prog_1_method_28_code (2 : Nat) (Option.some Jvm.ClassFile.FieldType.boolean) ∈ wsA := List.mem_filter.mpr ⟨wt_2 (List.mem_of_getElem? (i := 59) rfl), rfl⟩
theorem wq2_60 : Jvm.Cond.methodLinkNest "NoticeBoxes$Tellings" (56 : Nat) ({ cls := "NoticeBoxes", name := "holds", desc := "(II)Z" } : Jvm.MethodName) "NoticeBoxes" ∈ lw_tbl := wt_2 (List.mem_of_getElem? (i := 60) rfl)
theorem wq2_61 : Jvm.Cond.methodLink "NoticeBoxes$Tellings" (63 : Nat) ({ cls := "NoticeBoxes$BoxList", name := "add", desc := "(I)V" } : Jvm.MethodName) ∈ wsA := List.mem_filter.mpr ⟨wt_2 (List.mem_of_getElem? (i := 61) rfl), rfl⟩
theorem wq2_62 : Jvm.Cond.instanceMethod ({ cls := "NoticeBoxes$BoxList", name := "add", desc := "(I)V" } : Jvm.MethodName) ∈ wsA := List.mem_filter.mpr ⟨wt_2 (List.mem_of_getElem? (i := 62) rfl), rfl⟩
theorem wq2_63 : Jvm.Cond.selects "NoticeBoxes$BoxList" ({ cls := "NoticeBoxes$BoxList", name := "add", desc := "(I)V" } : Jvm.MethodName) ({ cls := "NoticeBoxes$BoxList", name := "add", desc := "(I)V" } : Jvm.MethodName) ∈ wsA := List.mem_filter.mpr ⟨wt_2 (List.mem_of_getElem? (i := 63) rfl), rfl⟩
theorem wq2_64 : Jvm.Cond.code ({ cls := "NoticeBoxes$BoxList", name := "add", desc := "(I)V" } : Jvm.MethodName) prog_4_method_3_code (2 : Nat) (Option.none : Option Jvm.ClassFile.FieldType) ∈ wsA := List.mem_filter.mpr ⟨wt_2 (List.mem_of_getElem? (i := 64) rfl), rfl⟩
theorem wq2_65 : Jvm.Cond.methodLink "NoticeBoxes$BoxList" (25 : Nat) ({ cls := "NoticeBoxes$BoxList", name := "covers", desc := "(I)Z" } : Jvm.MethodName) ∈ wsA := List.mem_filter.mpr ⟨wt_2 (List.mem_of_getElem? (i := 65) rfl), rfl⟩
theorem wq2_66 : Jvm.Cond.instanceMethod ({ cls := "NoticeBoxes$BoxList", name := "covers", desc := "(I)Z" } : Jvm.MethodName) ∈ wsA := List.mem_filter.mpr ⟨wt_2 (List.mem_of_getElem? (i := 66) rfl), rfl⟩
theorem wq2_67 : Jvm.Cond.selects "NoticeBoxes$BoxList" ({ cls := "NoticeBoxes$BoxList", name := "covers", desc := "(I)Z" } : Jvm.MethodName) ({ cls := "NoticeBoxes$BoxList", name := "covers", desc := "(I)Z" } : Jvm.MethodName) ∈ wsA := List.mem_filter.mpr ⟨wt_2 (List.mem_of_getElem? (i := 67) rfl), rfl⟩
theorem wq2_68 : Jvm.Cond.code ({ cls := "NoticeBoxes$BoxList", name := "covers", desc := "(I)Z" } : Jvm.MethodName) prog_4_method_2_code (3 : Nat) (Option.some Jvm.ClassFile.FieldType.boolean) ∈ wsA := List.mem_filter.mpr ⟨wt_2 (List.mem_of_getElem? (i := 68) rfl), rfl⟩
theorem wq2_69 : Jvm.Cond.methodLink "NoticeBoxes$BoxList" (19 : Nat) ({ cls := "NoticeBoxes$Box", name := "covers", desc := "(II)Z" } : Jvm.MethodName) ∈ wsA := List.mem_filter.mpr ⟨wt_2 (List.mem_of_getElem? (i := 69) rfl), rfl⟩
theorem wq2_70 : Jvm.Cond.static ({ cls := "NoticeBoxes$Box", name := "covers", desc := "(II)Z" } : Jvm.MethodName) ∈ wsA := List.mem_filter.mpr ⟨wt_2 (List.mem_of_getElem? (i := 70) rfl), rfl⟩
theorem wq2_71 : Jvm.Cond.code ({ cls := "NoticeBoxes$Box", name := "covers", desc := "(II)Z" } : Jvm.MethodName) prog_3_method_10_code (3 : Nat) (Option.some Jvm.ClassFile.FieldType.boolean) ∈ wsA := List.mem_filter.mpr ⟨wt_2 (List.mem_of_getElem? (i := 71) rfl), rfl⟩
theorem wq2_72 : Jvm.Cond.methodLink "NoticeBoxes$Box" (19 : Nat) ({ cls := "NoticeBoxes$Box", name := "from", desc := "(II)I" } : Jvm.MethodName) ∈ wsA := List.mem_filter.mpr ⟨wt_2 (List.mem_of_getElem? (i := 72) rfl), rfl⟩
theorem wq2_73 : Jvm.Cond.static ({ cls := "NoticeBoxes$Box", name := "from", desc := "(II)I" } : Jvm.MethodName) ∈ wsA := List.mem_filter.mpr ⟨wt_2 (List.mem_of_getElem? (i := 73) rfl), rfl⟩
theorem wq2_74 : Jvm.Cond.code ({ cls := "NoticeBoxes$Box", name := "from", desc := "(II)I" } : Jvm.MethodName) prog_3_method_6_code (2 : Nat) (Option.some Jvm.ClassFile.FieldType.int) ∈ wsA := List.mem_filter.mpr ⟨wt_2 (List.mem_of_getElem? (i := 74) rfl), rfl⟩
theorem wq2_75 : Jvm.Cond.methodLink "NoticeBoxes$Box" (15 : Nat) ({ cls := "NoticeBoxes$Box", name := "to", desc := "(II)I" } : Jvm.MethodName) ∈ wsA := List.mem_filter.mpr ⟨wt_2 (List.mem_of_getElem? (i := 75) rfl), rfl⟩
theorem wq2_76 : Jvm.Cond.static ({ cls := "NoticeBoxes$Box", name := "to", desc := "(II)I" } : Jvm.MethodName) ∈ wsA := List.mem_filter.mpr ⟨wt_2 (List.mem_of_getElem? (i := 76) rfl), rfl⟩
theorem wq2_77 : Jvm.Cond.code ({ cls := "NoticeBoxes$Box", name := "to", desc := "(II)I" } : Jvm.MethodName) prog_3_method_7_code (2 : Nat) (Option.some Jvm.ClassFile.FieldType.int) ∈ wsA := List.mem_filter.mpr ⟨wt_2 (List.mem_of_getElem? (i := 77) rfl), rfl⟩
theorem wq2_78 : Jvm.Cond.methodLink "NoticeBoxes$BoxList" (28 : Nat) ({ cls := "NoticeBoxes$BoxList", name := "removeCoveredBy", desc := "(I)V" } : Jvm.MethodName) ∈ wsA := List.mem_filter.mpr ⟨wt_2 (List.mem_of_getElem? (i := 78) rfl), rfl⟩
theorem wq2_79 : Jvm.Cond.privateMethod ({ cls := "NoticeBoxes$BoxList", name := "removeCoveredBy", desc := "(I)V" } : Jvm.MethodName) ∈ lw_tbl := wt_2 (List.mem_of_getElem? (i := 79) rfl)
theorem wq2_80 : Jvm.Cond.instanceMethod ({ cls := "NoticeBoxes$BoxList", name := "removeCoveredBy", desc := "(I)V" } : Jvm.MethodName) ∈ wsA := List.mem_filter.mpr ⟨wt_2 (List.mem_of_getElem? (i := 80) rfl), rfl⟩
theorem wq2_81 : Jvm.Cond.code ({ cls := "NoticeBoxes$BoxList", name := "removeCoveredBy", desc := "(I)V" } : Jvm.MethodName) prog_4_method_5_code (4 : Nat) (Option.none : Option Jvm.ClassFile.FieldType) ∈ wsA := List.mem_filter.mpr ⟨wt_2 (List.mem_of_getElem? (i := 81) rfl), rfl⟩
theorem wq2_82 : Jvm.Cond.methodLink "NoticeBoxes$BoxList" (32 : Nat) ({ cls := "NoticeBoxes$BoxList", name := "insert", desc := "(I)V" } : Jvm.MethodName) ∈ wsA := List.mem_filter.mpr ⟨wt_2 (List.mem_of_getElem? (i := 82) rfl), rfl⟩
theorem wq2_83 : Jvm.Cond.privateMethod ({ cls := "NoticeBoxes$BoxList", name := "insert", desc := "(I)V" } : Jvm.MethodName) ∈ lw_tbl := wt_2 (List.mem_of_getElem? (i := 83) rfl)
theorem wq2_84 : Jvm.Cond.instanceMethod ({ cls := "NoticeBoxes$BoxList", name := "insert", desc := "(I)V" } : Jvm.MethodName) ∈ wsA := List.mem_filter.mpr ⟨wt_2 (List.mem_of_getElem? (i := 84) rfl), rfl⟩
theorem wq2_85 : Jvm.Cond.code ({ cls := "NoticeBoxes$BoxList", name := "insert", desc := "(I)V" } : Jvm.MethodName) prog_4_method_6_code (3 : Nat) (Option.none : Option Jvm.ClassFile.FieldType) ∈ wsA := List.mem_filter.mpr ⟨wt_2 (List.mem_of_getElem? (i := 85) rfl), rfl⟩
theorem wq2_86 : Jvm.Cond.methodLink "NoticeBoxes$Tellings" (67 : Nat) ({ cls := "NoticeBoxes$State", name := "areNeighbours", desc := "(II)Z" } : Jvm.MethodName) ∈ wsA := List.mem_filter.mpr ⟨wt_2 (List.mem_of_getElem? (i := 86) rfl), rfl⟩
theorem wq2_87 : Jvm.Cond.instanceMethod ({ cls := "NoticeBoxes$State", name := "areNeighbours", desc := "(II)Z" } : Jvm.MethodName) ∈ wsA := List.mem_filter.mpr ⟨wt_2 (List.mem_of_getElem? (i := 87) rfl), rfl⟩
theorem wq2_88 : Jvm.Cond.selects "NoticeBoxes$State" ({ cls := "NoticeBoxes$State", name := "areNeighbours", desc := "(II)Z" } : Jvm.MethodName) ({ cls := "NoticeBoxes$State", name := "areNeighbours", desc := "(II)Z" } : Jvm.MethodName) ∈ wsA := List.mem_filter.mpr ⟨wt_2 (List.mem_of_getElem? (i := 88) rfl), rfl⟩
theorem wq2_89 : Jvm.Cond.code ({ cls := "NoticeBoxes$State", name := "areNeighbours", desc := "(II)Z" } : Jvm.MethodName) prog_10_method_6_code (3 : Nat) (Option.some Jvm.ClassFile.FieldType.boolean) ∈ wsA := List.mem_filter.mpr ⟨wt_2 (List.mem_of_getElem? (i := 89) rfl), rfl⟩
theorem wq2_90 : Jvm.Cond.methodLink "NoticeBoxes$State" (64 : Nat) ({ cls := "NoticeBoxes$State", name := "hasBroker", desc := "(I)Z" } : Jvm.MethodName) ∈ wsA := List.mem_filter.mpr ⟨wt_2 (List.mem_of_getElem? (i := 90) rfl), rfl⟩
theorem wq2_91 : Jvm.Cond.instanceMethod ({ cls := "NoticeBoxes$State", name := "hasBroker", desc := "(I)Z" } : Jvm.MethodName) ∈ wsA := List.mem_filter.mpr ⟨wt_2 (List.mem_of_getElem? (i := 91) rfl), rfl⟩
theorem wq2_92 : Jvm.Cond.selects "NoticeBoxes$State" ({ cls := "NoticeBoxes$State", name := "hasBroker", desc := "(I)Z" } : Jvm.MethodName) ({ cls := "NoticeBoxes$State", name := "hasBroker", desc := "(I)Z" } : Jvm.MethodName) ∈ wsA := List.mem_filter.mpr ⟨wt_2 (List.mem_of_getElem? (i := 92) rfl), rfl⟩
theorem wq2_93 : Jvm.Cond.code ({ cls := "NoticeBoxes$State", name := "hasBroker", desc := "(I)Z" } : Jvm.MethodName) prog_10_method_3_code (2 : Nat) (Option.some Jvm.ClassFile.FieldType.boolean) ∈ wsA := List.mem_filter.mpr ⟨wt_2 (List.mem_of_getElem? (i := 93) rfl), rfl⟩
theorem wq2_94 : Jvm.Cond.methodLinkNest "NoticeBoxes$State" (60 : Nat) ({ cls := "NoticeBoxes", name := "within", desc := "(III)Z" } : Jvm.MethodName) "NoticeBoxes" ∈ lw_tbl := wt_2 (List.mem_of_getElem? (i := 94) rfl)
theorem wq2_95 : Jvm.Cond.static ({ cls := "NoticeBoxes", name := "within", desc := "(III)Z" } : Jvm.MethodName) ∈ wsA := List.mem_filter.mpr ⟨wt_2 (List.mem_of_getElem? (i := 95) rfl), rfl⟩
theorem wq2_96 : Jvm.Cond.code ({ cls := "NoticeBoxes", name := "within", desc := "(III)Z" } : Jvm.MethodName) prog_1_method_27_code (3 : Nat) (Option.some Jvm.ClassFile.FieldType.boolean) ∈ wsA := List.mem_filter.mpr ⟨wt_2 (List.mem_of_getElem? (i := 96) rfl), rfl⟩
theorem wq2_97 : Jvm.Cond.methodLink "NoticeBoxes$Tellings" (76 : Nat) ({ cls := "NoticeBoxes$BoxList", name := "cheapestJoin", desc := "()I" } : Jvm.MethodName) ∈ wsA := List.mem_filter.mpr ⟨wt_2 (List.mem_of_getElem? (i := 97) rfl), rfl⟩
theorem wq2_98 : Jvm.Cond.instanceMethod ({ cls := "NoticeBoxes$BoxList", name := "cheapestJoin", desc := "()I" } : Jvm.MethodName) ∈ wsA := List.mem_filter.mpr ⟨wt_2 (List.mem_of_getElem? (i := 98) rfl), rfl⟩
theorem wq2_99 : Jvm.Cond.selects "NoticeBoxes$BoxList" ({ cls := "NoticeBoxes$BoxList", name := "cheapestJoin", desc := "()I" } : Jvm.MethodName) ({ cls := "NoticeBoxes$BoxList", name := "cheapestJoin", desc := "()I" } : Jvm.MethodName) ∈ wsA := List.mem_filter.mpr ⟨wt_2 (List.mem_of_getElem? (i := 99) rfl), rfl⟩
theorem wq2_100 : Jvm.Cond.code ({ cls := "NoticeBoxes$BoxList", name := "cheapestJoin", desc := "()I" } : Jvm.MethodName) prog_4_method_4_code (6 : Nat) (Option.some Jvm.ClassFile.FieldType.int) ∈ wsA := List.mem_filter.mpr ⟨wt_2 (List.mem_of_getElem? (i := 100) rfl), rfl⟩
theorem wq2_101 : Jvm.Cond.constant "NoticeBoxes$BoxList" (37 : Nat) (2147483647 : Int32) ∈ wsA := List.mem_filter.mpr ⟨wt_2 (List.mem_of_getElem? (i := 101) rfl), rfl⟩
theorem wq2_102 : Jvm.Cond.methodLink "NoticeBoxes$BoxList" (38 : Nat) ({ cls := "NoticeBoxes$Box", name := "waste", desc := "(II)I" } : Jvm.MethodName) ∈ wsA := List.mem_filter.mpr ⟨wt_2 (List.mem_of_getElem? (i := 102) rfl), rfl⟩
theorem wq2_103 : Jvm.Cond.static ({ cls := "NoticeBoxes$Box", name := "waste", desc := "(II)I" } : Jvm.MethodName) ∈ wsA := List.mem_filter.mpr ⟨wt_2 (List.mem_of_getElem? (i := 103) rfl), rfl⟩
theorem wq2_104 : Jvm.Cond.code ({ cls := "NoticeBoxes$Box", name := "waste", desc := "(II)I" } : Jvm.MethodName) prog_3_method_12_code (2 : Nat) (Option.some Jvm.ClassFile.FieldType.int) ∈ wsA := List.mem_filter.mpr ⟨wt_2 (List.mem_of_getElem? (i := 104) rfl), rfl⟩
theorem wq2_105 : Jvm.Cond.methodLink "NoticeBoxes$Box" (30 : Nat) ({ cls := "NoticeBoxes$Box", name := "joined", desc := "(II)I" } : Jvm.MethodName) ∈ wsA := List.mem_filter.mpr ⟨wt_2 (List.mem_of_getElem? (i := 105) rfl), rfl⟩
theorem wq2_106 : Jvm.Cond.static ({ cls := "NoticeBoxes$Box", name := "joined", desc := "(II)I" } : Jvm.MethodName) ∈ wsA := List.mem_filter.mpr ⟨wt_2 (List.mem_of_getElem? (i := 106) rfl), rfl⟩
theorem wq2_107 : Jvm.Cond.code ({ cls := "NoticeBoxes$Box", name := "joined", desc := "(II)I" } : Jvm.MethodName) prog_3_method_11_code (4 : Nat) (Option.some Jvm.ClassFile.FieldType.int) ∈ wsA := List.mem_filter.mpr ⟨wt_2 (List.mem_of_getElem? (i := 107) rfl), rfl⟩
theorem wq2_108 : Jvm.Cond.methodLink "NoticeBoxes$Box" (27 : Nat) ({ cls := "java/lang/Math", name := "min", desc := "(II)I" } : Jvm.MethodName) ∈ wsA := List.mem_filter.mpr ⟨wt_2 (List.mem_of_getElem? (i := 108) rfl), rfl⟩
theorem wq2_109 : Jvm.Cond.static ({ cls := "java/lang/Math", name := "min", desc := "(II)I" } : Jvm.MethodName) ∈ wsA := List.mem_filter.mpr ⟨wt_2 (List.mem_of_getElem? (i := 109) rfl), rfl⟩
theorem wq2_110 : Jvm.Cond.code ({ cls := "java/lang/Math", name := "min", desc := "(II)I" } : Jvm.MethodName) prog_15_method_69_code (2 : Nat) (Option.some Jvm.ClassFile.FieldType.int) ∈ wsA := List.mem_filter.mpr ⟨wt_2 (List.mem_of_getElem? (i := 110) rfl), rfl⟩
theorem wq2_111 : Jvm.Cond.methodLink "NoticeBoxes$Box" (22 : Nat) ({ cls := "java/lang/Math", name := "max", desc := "(II)I" } : Jvm.MethodName) ∈ wsA := List.mem_filter.mpr ⟨wt_2 (List.mem_of_getElem? (i := 111) rfl), rfl⟩
theorem wq2_112 : Jvm.Cond.static ({ cls := "java/lang/Math", name := "max", desc := "(II)I" } : Jvm.MethodName) ∈ wsA := List.mem_filter.mpr ⟨wt_2 (List.mem_of_getElem? (i := 112) rfl), rfl⟩
theorem wq2_113 : Jvm.Cond.code ({ cls := "java/lang/Math", name := "max", desc := "(II)I" } : Jvm.MethodName) prog_15_method_65_code (2 : Nat) (Option.some Jvm.ClassFile.FieldType.int) ∈ wsA := List.mem_filter.mpr ⟨wt_2 (List.mem_of_getElem? (i := 113) rfl), rfl⟩
theorem wq2_114 : Jvm.Cond.methodLink "NoticeBoxes$Box" (9 : Nat) ({ cls := "NoticeBoxes$Box", name := "withBounds", desc := "(III)I" } : Jvm.MethodName) ∈ wsA := List.mem_filter.mpr ⟨wt_2 (List.mem_of_getElem? (i := 114) rfl), rfl⟩
theorem wq2_115 : Jvm.Cond.static ({ cls := "NoticeBoxes$Box", name := "withBounds", desc := "(III)I" } : Jvm.MethodName) ∈ wsA := List.mem_filter.mpr ⟨wt_2 (List.mem_of_getElem? (i := 115) rfl), rfl⟩
theorem wq2_116 : Jvm.Cond.code ({ cls := "NoticeBoxes$Box", name := "withBounds", desc := "(III)I" } : Jvm.MethodName) prog_3_method_3_code (3 : Nat) (Option.some Jvm.ClassFile.FieldType.int) ∈ wsA := List.mem_filter.mpr ⟨wt_2 (List.mem_of_getElem? (i := 116) rfl), rfl⟩
theorem wq2_117 : Jvm.Cond.methodLink "NoticeBoxes$Box" (33 : Nat) ({ cls := "NoticeBoxes$Box", name := "size", desc := "(I)I" } : Jvm.MethodName) ∈ wsA := List.mem_filter.mpr ⟨wt_2 (List.mem_of_getElem? (i := 117) rfl), rfl⟩
theorem wq2_118 : Jvm.Cond.static ({ cls := "NoticeBoxes$Box", name := "size", desc := "(I)I" } : Jvm.MethodName) ∈ wsA := List.mem_filter.mpr ⟨wt_2 (List.mem_of_getElem? (i := 118) rfl), rfl⟩
theorem wq2_119 : Jvm.Cond.code ({ cls := "NoticeBoxes$Box", name := "size", desc := "(I)I" } : Jvm.MethodName) prog_3_method_8_code (3 : Nat) (Option.some Jvm.ClassFile.FieldType.int) ∈ wsA := List.mem_filter.mpr ⟨wt_2 (List.mem_of_getElem? (i := 119) rfl), rfl⟩
theorem wq2_120 : Jvm.Cond.methodLink "NoticeBoxes$Box" (37 : Nat) ({ cls := "NoticeBoxes$Box", name := "sizeOfCommon", desc := "(II)I" } : Jvm.MethodName) ∈ wsA := List.mem_filter.mpr ⟨wt_2 (List.mem_of_getElem? (i := 120) rfl), rfl⟩
theorem wq2_121 : Jvm.Cond.static ({ cls := "NoticeBoxes$Box", name := "sizeOfCommon", desc := "(II)I" } : Jvm.MethodName) ∈ wsA := List.mem_filter.mpr ⟨wt_2 (List.mem_of_getElem? (i := 121) rfl), rfl⟩
theorem wq2_122 : Jvm.Cond.code ({ cls := "NoticeBoxes$Box", name := "sizeOfCommon", desc := "(II)I" } : Jvm.MethodName) prog_3_method_9_code (6 : Nat) (Option.some Jvm.ClassFile.FieldType.int) ∈ wsA := List.mem_filter.mpr ⟨wt_2 (List.mem_of_getElem? (i := 122) rfl), rfl⟩
theorem wq2_123 : Jvm.Cond.methodLink "NoticeBoxes$BoxList" (42 : Nat) ({ cls := "NoticeBoxes$Box", name := "joined", desc := "(II)I" } : Jvm.MethodName) ∈ wsA := List.mem_filter.mpr ⟨wt_2 (List.mem_of_getElem? (i := 123) rfl), rfl⟩
theorem wq2_124 : Jvm.Cond.methodLink "NoticeBoxes" (78 : Nat) ({ cls := "NoticeBoxes$Tellings", name := "countAll", desc := "(LNoticeBoxes$State;)I" } : Jvm.MethodName) ∈ wsA := List.mem_filter.mpr ⟨wt_2 (List.mem_of_getElem? (i := 124) rfl), rfl⟩
theorem wq2_125 : Jvm.Cond.instanceMethod ({ cls := "NoticeBoxes$Tellings", name := "countAll", desc := "(LNoticeBoxes$State;)I" } : Jvm.MethodName) ∈ wsA := List.mem_filter.mpr ⟨wt_2 (List.mem_of_getElem? (i := 125) rfl), rfl⟩
theorem wq2_126 : Jvm.Cond.selects "NoticeBoxes$Tellings" ({ cls := "NoticeBoxes$Tellings", name := "countAll", desc := "(LNoticeBoxes$State;)I" } : Jvm.MethodName) ({ cls := "NoticeBoxes$Tellings", name := "countAll", desc := "(LNoticeBoxes$State;)I" } : Jvm.MethodName) ∈ wsA := List.mem_filter.mpr ⟨wt_2 (List.mem_of_getElem? (i := 126) rfl), rfl⟩
theorem wq2_127 : Jvm.Cond.code ({ cls := "NoticeBoxes$Tellings", name := "countAll", desc := "(LNoticeBoxes$State;)I" } : Jvm.MethodName) prog_11_method_4_code (4 : Nat) (Option.some Jvm.ClassFile.FieldType.int) ∈ wsA := List.mem_filter.mpr ⟨wt_2 (List.mem_of_getElem? (i := 127) rfl), rfl⟩
theorem wq2_128 : Jvm.Cond.methodLink "NoticeBoxes" (91 : Nat) ({ cls := "NoticeBoxes$Book", name := "firstWrong", desc := "(LNoticeBoxes$State;)I" } : Jvm.MethodName) ∈ wsA := List.mem_filter.mpr ⟨wt_2 (List.mem_of_getElem? (i := 128) rfl), rfl⟩
theorem wq2_129 : Jvm.Cond.instanceMethod ({ cls := "NoticeBoxes$Book", name := "firstWrong", desc := "(LNoticeBoxes$State;)I" } : Jvm.MethodName) ∈ wsA := List.mem_filter.mpr ⟨wt_2 (List.mem_of_getElem? (i := 129) rfl), rfl⟩
theorem wq2_130 : Jvm.Cond.selects "NoticeBoxes$Book" ({ cls := "NoticeBoxes$Book", name := "firstWrong", desc := "(LNoticeBoxes$State;)I" } : Jvm.MethodName) ({ cls := "NoticeBoxes$Book", name := "firstWrong", desc := "(LNoticeBoxes$State;)I" } : Jvm.MethodName) ∈ wsA := List.mem_filter.mpr ⟨wt_2 (List.mem_of_getElem? (i := 130) rfl), rfl⟩
theorem wq2_131 : Jvm.Cond.code ({ cls := "NoticeBoxes$Book", name := "firstWrong", desc := "(LNoticeBoxes$State;)I" } : Jvm.MethodName) prog_2_method_3_code (4 : Nat) (Option.some Jvm.ClassFile.FieldType.int) ∈ wsA := List.mem_filter.mpr ⟨wt_2 (List.mem_of_getElem? (i := 131) rfl), rfl⟩
theorem wq2_132 : Jvm.Cond.methodLink "NoticeBoxes$Book" (22 : Nat) ({ cls := "NoticeBoxes$State", name := "hasClient", desc := "(I)Z" } : Jvm.MethodName) ∈ wsA := List.mem_filter.mpr ⟨wt_2 (List.mem_of_getElem? (i := 132) rfl), rfl⟩
theorem wq2_133 : Jvm.Cond.instanceMethod ({ cls := "NoticeBoxes$State", name := "hasClient", desc := "(I)Z" } : Jvm.MethodName) ∈ wsA := List.mem_filter.mpr ⟨wt_2 (List.mem_of_getElem? (i := 133) rfl), rfl⟩
theorem wq2_134 : Jvm.Cond.selects "NoticeBoxes$State" ({ cls := "NoticeBoxes$State", name := "hasClient", desc := "(I)Z" } : Jvm.MethodName) ({ cls := "NoticeBoxes$State", name := "hasClient", desc := "(I)Z" } : Jvm.MethodName) ∈ wsA := List.mem_filter.mpr ⟨wt_2 (List.mem_of_getElem? (i := 134) rfl), rfl⟩
theorem wq2_135 : Jvm.Cond.code ({ cls := "NoticeBoxes$State", name := "hasClient", desc := "(I)Z" } : Jvm.MethodName) prog_10_method_4_code (2 : Nat) (Option.some Jvm.ClassFile.FieldType.boolean) ∈ wsA := List.mem_filter.mpr ⟨wt_2 (List.mem_of_getElem? (i := 135) rfl), rfl⟩
theorem wq2_136 : Jvm.Cond.constant "NoticeBoxes" (98 : Nat) (-1000000002 : Int32) ∈ wsA := List.mem_filter.mpr ⟨wt_2 (List.mem_of_getElem? (i := 136) rfl), rfl⟩
theorem wq2_137 : Jvm.Cond.methodLink "NoticeBoxesLaw" (18 : Nat) ({ cls := "NoticeBoxes", name := "brokerAt", desc := "(II)I" } : Jvm.MethodName) ∈ wsA := List.mem_filter.mpr ⟨wt_2 (List.mem_of_getElem? (i := 137) rfl), rfl⟩
theorem wq2_138 : Jvm.Cond.instanceMethod ({ cls := "NoticeBoxes", name := "brokerAt", desc := "(II)I" } : Jvm.MethodName) ∈ wsA := List.mem_filter.mpr ⟨wt_2 (List.mem_of_getElem? (i := 138) rfl), rfl⟩
theorem wq2_139 : Jvm.Cond.selects "NoticeBoxes" ({ cls := "NoticeBoxes", name := "brokerAt", desc := "(II)I" } : Jvm.MethodName) ({ cls := "NoticeBoxes", name := "brokerAt", desc := "(II)I" } : Jvm.MethodName) ∈ wsA := List.mem_filter.mpr ⟨wt_2 (List.mem_of_getElem? (i := 139) rfl), rfl⟩
theorem wq2_140 : Jvm.Cond.code ({ cls := "NoticeBoxes", name := "brokerAt", desc := "(II)I" } : Jvm.MethodName) prog_1_method_3_code (3 : Nat) (Option.some Jvm.ClassFile.FieldType.int) ∈ wsA := List.mem_filter.mpr ⟨wt_2 (List.mem_of_getElem? (i := 140) rfl), rfl⟩
theorem wq2_141 : Jvm.Cond.methodLink "NoticeBoxes" (99 : Nat) ({ cls := "NoticeBoxes$State", name := "hasBroker", desc := "(I)Z" } : Jvm.MethodName) ∈ wsA := List.mem_filter.mpr ⟨wt_2 (List.mem_of_getElem? (i := 141) rfl), rfl⟩
theorem wq2_142 : Jvm.Cond.constant "NoticeBoxes" (103 : Nat) (-1000000001 : Int32) ∈ wsA := List.mem_filter.mpr ⟨wt_2 (List.mem_of_getElem? (i := 142) rfl), rfl⟩
theorem wq2_143 : Jvm.Cond.methodLink "NoticeBoxes" (108 : Nat) ({ cls := "NoticeBoxes$State", name := "neighboursOf", desc := "(I)I" } : Jvm.MethodName) ∈ wsA := List.mem_filter.mpr ⟨wt_2 (List.mem_of_getElem? (i := 143) rfl), rfl⟩
theorem wq2_144 : Jvm.Cond.instanceMethod ({ cls := "NoticeBoxes$State", name := "neighboursOf", desc := "(I)I" } : Jvm.MethodName) ∈ wsA := List.mem_filter.mpr ⟨wt_2 (List.mem_of_getElem? (i := 144) rfl), rfl⟩
theorem wq2_145 : Jvm.Cond.selects "NoticeBoxes$State" ({ cls := "NoticeBoxes$State", name := "neighboursOf", desc := "(I)I" } : Jvm.MethodName) ({ cls := "NoticeBoxes$State", name := "neighboursOf", desc := "(I)I" } : Jvm.MethodName) ∈ wsA := List.mem_filter.mpr ⟨wt_2 (List.mem_of_getElem? (i := 145) rfl), rfl⟩
theorem wq2_146 : Jvm.Cond.code ({ cls := "NoticeBoxes$State", name := "neighboursOf", desc := "(I)I" } : Jvm.MethodName) prog_10_method_7_code (4 : Nat) (Option.some Jvm.ClassFile.FieldType.int) ∈ wsA := List.mem_filter.mpr ⟨wt_2 (List.mem_of_getElem? (i := 146) rfl), rfl⟩
theorem wq2_147 : Jvm.Cond.methodLink "NoticeBoxes$State" (68 : Nat) ({ cls := "NoticeBoxes$State", name := "areNeighbours", desc := "(II)Z" } : Jvm.MethodName) ∈ wsA := List.mem_filter.mpr ⟨wt_2 (List.mem_of_getElem? (i := 147) rfl), rfl⟩
theorem wq2_148 : Jvm.Cond.methodLink "NoticeBoxes" (112 : Nat) ({ cls := "NoticeBoxes$State", name := "clientsHomeAt", desc := "(I)I" } : Jvm.MethodName) ∈ wsA := List.mem_filter.mpr ⟨wt_2 (List.mem_of_getElem? (i := 148) rfl), rfl⟩
theorem wq2_149 : Jvm.Cond.methodLink "NoticeBoxes" (115 : Nat) ({ cls := "NoticeBoxes$State", name := "wishesOf", desc := "(I)I" } : Jvm.MethodName) ∈ wsA := List.mem_filter.mpr ⟨wt_2 (List.mem_of_getElem? (i := 149) rfl), rfl⟩
theorem wq2_150 : Jvm.Cond.methodLink "NoticeBoxesLaw" (23 : Nat) ({ cls := "NoticeBoxes", name := "clientAt", desc := "(II)I" } : Jvm.MethodName) ∈ wsA := List.mem_filter.mpr ⟨wt_2 (List.mem_of_getElem? (i := 150) rfl), rfl⟩
theorem wq2_151 : Jvm.Cond.instanceMethod ({ cls := "NoticeBoxes", name := "clientAt", desc := "(II)I" } : Jvm.MethodName) ∈ wsA := List.mem_filter.mpr ⟨wt_2 (List.mem_of_getElem? (i := 151) rfl), rfl⟩
theorem wq2_152 : Jvm.Cond.selects "NoticeBoxes" ({ cls := "NoticeBoxes", name := "clientAt", desc := "(II)I" } : Jvm.MethodName) ({ cls := "NoticeBoxes", name := "clientAt", desc := "(II)I" } : Jvm.MethodName) ∈ wsA := List.mem_filter.mpr ⟨wt_2 (List.mem_of_getElem? (i := 152) rfl), rfl⟩
theorem wq2_153 : Jvm.Cond.code ({ cls := "NoticeBoxes", name := "clientAt", desc := "(II)I" } : Jvm.MethodName) prog_1_method_4_code (4 : Nat) (Option.some Jvm.ClassFile.FieldType.int) ∈ wsA := List.mem_filter.mpr ⟨wt_2 (List.mem_of_getElem? (i := 153) rfl), rfl⟩
theorem wq2_154 : Jvm.Cond.methodLink "NoticeBoxes" (118 : Nat) ({ cls := "NoticeBoxes$State", name := "hasClient", desc := "(I)Z" } : Jvm.MethodName) ∈ wsA := List.mem_filter.mpr ⟨wt_2 (List.mem_of_getElem? (i := 154) rfl), rfl⟩
theorem wq2_155 : Jvm.Cond.methodLink "NoticeBoxesLaw" (27 : Nat) ({ cls := "NoticeBoxes", name := "log", desc := "(II)I" } : Jvm.MethodName) ∈ wsA := List.mem_filter.mpr ⟨wt_2 (List.mem_of_getElem? (i := 155) rfl), rfl⟩
theorem wq2_156 : Jvm.Cond.instanceMethod ({ cls := "NoticeBoxes", name := "log", desc := "(II)I" } : Jvm.MethodName) ∈ wsA := List.mem_filter.mpr ⟨wt_2 (List.mem_of_getElem? (i := 156) rfl), rfl⟩
theorem wq2_157 : Jvm.Cond.selects "NoticeBoxes" ({ cls := "NoticeBoxes", name := "log", desc := "(II)I" } : Jvm.MethodName) ({ cls := "NoticeBoxes", name := "log", desc := "(II)I" } : Jvm.MethodName) ∈ wsA := List.mem_filter.mpr ⟨wt_2 (List.mem_of_getElem? (i := 157) rfl), rfl⟩
theorem wq2_158 : Jvm.Cond.code ({ cls := "NoticeBoxes", name := "log", desc := "(II)I" } : Jvm.MethodName) prog_1_method_5_code (3 : Nat) (Option.some Jvm.ClassFile.FieldType.int) ∈ wsA := List.mem_filter.mpr ⟨wt_2 (List.mem_of_getElem? (i := 158) rfl), rfl⟩
theorem wq2_159 : Jvm.Cond.methodLink "NoticeBoxes" (143 : Nat) ({ cls := "NoticeBoxes", name := "within", desc := "(III)Z" } : Jvm.MethodName) ∈ wsA := List.mem_filter.mpr ⟨wt_2 (List.mem_of_getElem? (i := 159) rfl), rfl⟩
theorem wq2_160 : Jvm.Cond.methodLink "NoticeBoxes" (147 : Nat) ({ cls := "NoticeBoxes$Client", name := "latest", desc := "(I)I" } : Jvm.MethodName) ∈ wsA := List.mem_filter.mpr ⟨wt_2 (List.mem_of_getElem? (i := 160) rfl), rfl⟩
theorem wq2_161 : Jvm.Cond.instanceMethod ({ cls := "NoticeBoxes$Client", name := "latest", desc := "(I)I" } : Jvm.MethodName) ∈ wsA := List.mem_filter.mpr ⟨wt_2 (List.mem_of_getElem? (i := 161) rfl), rfl⟩
theorem wq2_162 : Jvm.Cond.selects "NoticeBoxes$Client" ({ cls := "NoticeBoxes$Client", name := "latest", desc := "(I)I" } : Jvm.MethodName) ({ cls := "NoticeBoxes$Client", name := "latest", desc := "(I)I" } : Jvm.MethodName) ∈ wsA := List.mem_filter.mpr ⟨wt_2 (List.mem_of_getElem? (i := 162) rfl), rfl⟩
theorem wq2_163 : Jvm.Cond.code ({ cls := "NoticeBoxes$Client", name := "latest", desc := "(I)I" } : Jvm.MethodName) prog_5_method_4_code (2 : Nat) (Option.some Jvm.ClassFile.FieldType.int) ∈ wsA := List.mem_filter.mpr ⟨wt_2 (List.mem_of_getElem? (i := 163) rfl), rfl⟩
theorem wq2_164 : Jvm.Cond.methodLink "NoticeBoxesLaw" (31 : Nat) ({ cls := "NoticeBoxes", name := "wishAt", desc := "(II)I" } : Jvm.MethodName) ∈ wsA := List.mem_filter.mpr ⟨wt_2 (List.mem_of_getElem? (i := 164) rfl), rfl⟩
theorem wq2_165 : Jvm.Cond.instanceMethod ({ cls := "NoticeBoxes", name := "wishAt", desc := "(II)I" } : Jvm.MethodName) ∈ wsA := List.mem_filter.mpr ⟨wt_2 (List.mem_of_getElem? (i := 165) rfl), rfl⟩
theorem wq2_166 : Jvm.Cond.selects "NoticeBoxes" ({ cls := "NoticeBoxes", name := "wishAt", desc := "(II)I" } : Jvm.MethodName) ({ cls := "NoticeBoxes", name := "wishAt", desc := "(II)I" } : Jvm.MethodName) ∈ wsA := List.mem_filter.mpr ⟨wt_2 (List.mem_of_getElem? (i := 166) rfl), rfl⟩
theorem wq2_167 : Jvm.Cond.code ({ cls := "NoticeBoxes", name := "wishAt", desc := "(II)I" } : Jvm.MethodName) prog_1_method_6_code (3 : Nat) (Option.some Jvm.ClassFile.FieldType.int) ∈ wsA := List.mem_filter.mpr ⟨wt_2 (List.mem_of_getElem? (i := 167) rfl), rfl⟩
theorem wq2_168 : Jvm.Cond.methodLink "NoticeBoxes" (150 : Nat) ({ cls := "NoticeBoxes$State", name := "hasWish", desc := "(I)Z" } : Jvm.MethodName) ∈ wsA := List.mem_filter.mpr ⟨wt_2 (List.mem_of_getElem? (i := 168) rfl), rfl⟩
theorem wq2_169 : Jvm.Cond.instanceMethod ({ cls := "NoticeBoxes$State", name := "hasWish", desc := "(I)Z" } : Jvm.MethodName) ∈ wsA := List.mem_filter.mpr ⟨wt_2 (List.mem_of_getElem? (i := 169) rfl), rfl⟩
theorem wq2_170 : Jvm.Cond.selects "NoticeBoxes$State" ({ cls := "NoticeBoxes$State", name := "hasWish", desc := "(I)Z" } : Jvm.MethodName) ({ cls := "NoticeBoxes$State", name := "hasWish", desc := "(I)Z" } : Jvm.MethodName) ∈ wsA := List.mem_filter.mpr ⟨wt_2 (List.mem_of_getElem? (i := 170) rfl), rfl⟩
theorem wq2_171 : Jvm.Cond.code ({ cls := "NoticeBoxes$State", name := "hasWish", desc := "(I)Z" } : Jvm.MethodName) prog_10_method_5_code (2 : Nat) (Option.some Jvm.ClassFile.FieldType.boolean) ∈ wsA := List.mem_filter.mpr ⟨wt_2 (List.mem_of_getElem? (i := 171) rfl), rfl⟩
theorem wq2_172 : Jvm.Cond.methodLink "NoticeBoxes" (159 : Nat) ({ cls := "NoticeBoxes$Box", name := "bound", desc := "(II)I" } : Jvm.MethodName) ∈ wsA := List.mem_filter.mpr ⟨wt_2 (List.mem_of_getElem? (i := 172) rfl), rfl⟩
theorem wq2_173 : Jvm.Cond.static ({ cls := "NoticeBoxes$Box", name := "bound", desc := "(II)I" } : Jvm.MethodName) ∈ wsA := List.mem_filter.mpr ⟨wt_2 (List.mem_of_getElem? (i := 173) rfl), rfl⟩
theorem wq2_174 : Jvm.Cond.code ({ cls := "NoticeBoxes$Box", name := "bound", desc := "(II)I" } : Jvm.MethodName) prog_3_method_5_code (2 : Nat) (Option.some Jvm.ClassFile.FieldType.int) ∈ wsA := List.mem_filter.mpr ⟨wt_2 (List.mem_of_getElem? (i := 174) rfl), rfl⟩
theorem wq2_175 : Jvm.Cond.methodLink "NoticeBoxes" (165 : Nat) ({ cls := "NoticeBoxes$Box", name := "size", desc := "(I)I" } : Jvm.MethodName) ∈ wsA := List.mem_filter.mpr ⟨wt_2 (List.mem_of_getElem? (i := 175) rfl), rfl⟩
theorem wq2_176 : Jvm.Cond.methodLink "NoticeBoxes" (168 : Nat) ({ cls := "NoticeBoxes$State", name := "wishesCoveredBy", desc := "(I)I" } : Jvm.MethodName) ∈ wsA := List.mem_filter.mpr ⟨wt_2 (List.mem_of_getElem? (i := 176) rfl), rfl⟩
theorem wq2_177 : Jvm.Cond.instanceMethod ({ cls := "NoticeBoxes$State", name := "wishesCoveredBy", desc := "(I)I" } : Jvm.MethodName) ∈ wsA := List.mem_filter.mpr ⟨wt_2 (List.mem_of_getElem? (i := 177) rfl), rfl⟩
theorem wq2_178 : Jvm.Cond.selects "NoticeBoxes$State" ({ cls := "NoticeBoxes$State", name := "wishesCoveredBy", desc := "(I)I" } : Jvm.MethodName) ({ cls := "NoticeBoxes$State", name := "wishesCoveredBy", desc := "(I)I" } : Jvm.MethodName) ∈ wsA := List.mem_filter.mpr ⟨wt_2 (List.mem_of_getElem? (i := 178) rfl), rfl⟩
theorem wq2_179 : Jvm.Cond.code ({ cls := "NoticeBoxes$State", name := "wishesCoveredBy", desc := "(I)I" } : Jvm.MethodName) prog_10_method_10_code (4 : Nat) (Option.some Jvm.ClassFile.FieldType.int) ∈ wsA := List.mem_filter.mpr ⟨wt_2 (List.mem_of_getElem? (i := 179) rfl), rfl⟩
theorem wq2_180 : Jvm.Cond.methodLink "NoticeBoxes$State" (78 : Nat) ({ cls := "NoticeBoxes$Box", name := "covers", desc := "(II)Z" } : Jvm.MethodName) ∈ wsA := List.mem_filter.mpr ⟨wt_2 (List.mem_of_getElem? (i := 180) rfl), rfl⟩
theorem wq2_181 : Jvm.Cond.methodLink "NoticeBoxesLaw" (35 : Nat) ({ cls := "NoticeBoxes", name := "toldOn", desc := "(II)I" } : Jvm.MethodName) ∈ wsA := List.mem_filter.mpr ⟨wt_2 (List.mem_of_getElem? (i := 181) rfl), rfl⟩
theorem wq2_182 : Jvm.Cond.instanceMethod ({ cls := "NoticeBoxes", name := "toldOn", desc := "(II)I" } : Jvm.MethodName) ∈ wsA := List.mem_filter.mpr ⟨wt_2 (List.mem_of_getElem? (i := 182) rfl), rfl⟩
theorem wq2_183 : Jvm.Cond.selects "NoticeBoxes" ({ cls := "NoticeBoxes", name := "toldOn", desc := "(II)I" } : Jvm.MethodName) ({ cls := "NoticeBoxes", name := "toldOn", desc := "(II)I" } : Jvm.MethodName) ∈ wsA := List.mem_filter.mpr ⟨wt_2 (List.mem_of_getElem? (i := 183) rfl), rfl⟩
theorem wq2_184 : Jvm.Cond.code ({ cls := "NoticeBoxes", name := "toldOn", desc := "(II)I" } : Jvm.MethodName) prog_1_method_7_code (3 : Nat) (Option.some Jvm.ClassFile.FieldType.int) ∈ wsA := List.mem_filter.mpr ⟨wt_2 (List.mem_of_getElem? (i := 184) rfl), rfl⟩
theorem wq2_185 : Jvm.Cond.methodLink "NoticeBoxes" (171 : Nat) ({ cls := "NoticeBoxes$State", name := "areNeighbours", desc := "(II)Z" } : Jvm.MethodName) ∈ wsA := List.mem_filter.mpr ⟨wt_2 (List.mem_of_getElem? (i := 185) rfl), rfl⟩
theorem wq2_186 : Jvm.Cond.methodLink "NoticeBoxes" (175 : Nat) ({ cls := "NoticeBoxes$Tellings", name := "between", desc := "(LNoticeBoxes$State;II)LNoticeBoxes$BoxList;" } : Jvm.MethodName) ∈ wsA := List.mem_filter.mpr ⟨wt_2 (List.mem_of_getElem? (i := 186) rfl), rfl⟩
theorem wq2_187 : Jvm.Cond.methodLink "NoticeBoxesLaw" (39 : Nat) ({ cls := "NoticeBoxes", name := "box", desc := "(IIII)I" } : Jvm.MethodName) ∈ wsA := List.mem_filter.mpr ⟨wt_2 (List.mem_of_getElem? (i := 187) rfl), rfl⟩
theorem wq2_188 : Jvm.Cond.instanceMethod ({ cls := "NoticeBoxes", name := "box", desc := "(IIII)I" } : Jvm.MethodName) ∈ wsA := List.mem_filter.mpr ⟨wt_2 (List.mem_of_getElem? (i := 188) rfl), rfl⟩
theorem wq2_189 : Jvm.Cond.selects "NoticeBoxes" ({ cls := "NoticeBoxes", name := "box", desc := "(IIII)I" } : Jvm.MethodName) ({ cls := "NoticeBoxes", name := "box", desc := "(IIII)I" } : Jvm.MethodName) ∈ wsA := List.mem_filter.mpr ⟨wt_2 (List.mem_of_getElem? (i := 189) rfl), rfl⟩
theorem wq2_190 : Jvm.Cond.code ({ cls := "NoticeBoxes", name := "box", desc := "(IIII)I" } : Jvm.MethodName) prog_1_method_8_code (7 : Nat) (Option.some Jvm.ClassFile.FieldType.int) ∈ wsA := List.mem_filter.mpr ⟨wt_2 (List.mem_of_getElem? (i := 190) rfl), rfl⟩
theorem wq2_191 : Jvm.Cond.methodLink "NoticeBoxes" (185 : Nat) ({ cls := "NoticeBoxes$State", name := "isWished", desc := "(I)Z" } : Jvm.MethodName) ∈ wsA := List.mem_filter.mpr ⟨wt_2 (List.mem_of_getElem? (i := 191) rfl), rfl⟩
theorem wq2_192 : Jvm.Cond.instanceMethod ({ cls := "NoticeBoxes$State", name := "isWished", desc := "(I)Z" } : Jvm.MethodName) ∈ wsA := List.mem_filter.mpr ⟨wt_2 (List.mem_of_getElem? (i := 192) rfl), rfl⟩
theorem wq2_193 : Jvm.Cond.selects "NoticeBoxes$State" ({ cls := "NoticeBoxes$State", name := "isWished", desc := "(I)Z" } : Jvm.MethodName) ({ cls := "NoticeBoxes$State", name := "isWished", desc := "(I)Z" } : Jvm.MethodName) ∈ wsA := List.mem_filter.mpr ⟨wt_2 (List.mem_of_getElem? (i := 193) rfl), rfl⟩
theorem wq2_194 : Jvm.Cond.code ({ cls := "NoticeBoxes$State", name := "isWished", desc := "(I)Z" } : Jvm.MethodName) prog_10_method_12_code (3 : Nat) (Option.some Jvm.ClassFile.FieldType.boolean) ∈ wsA := List.mem_filter.mpr ⟨wt_2 (List.mem_of_getElem? (i := 194) rfl), rfl⟩
theorem wq2_195 : Jvm.Cond.methodLink "NoticeBoxesLaw" (44 : Nat) ({ cls := "NoticeBoxes", name := "would", desc := "(IIIII)I" } : Jvm.MethodName) ∈ wsA := List.mem_filter.mpr ⟨wt_2 (List.mem_of_getElem? (i := 195) rfl), rfl⟩
theorem wq2_196 : Jvm.Cond.instanceMethod ({ cls := "NoticeBoxes", name := "would", desc := "(IIIII)I" } : Jvm.MethodName) ∈ wsA := List.mem_filter.mpr ⟨wt_2 (List.mem_of_getElem? (i := 196) rfl), rfl⟩
theorem wq2_197 : Jvm.Cond.selects "NoticeBoxes" ({ cls := "NoticeBoxes", name := "would", desc := "(IIIII)I" } : Jvm.MethodName) ({ cls := "NoticeBoxes", name := "would", desc := "(IIIII)I" } : Jvm.MethodName) ∈ wsA := List.mem_filter.mpr ⟨wt_2 (List.mem_of_getElem? (i := 197) rfl), rfl⟩
theorem wq2_198 : Jvm.Cond.code ({ cls := "NoticeBoxes", name := "would", desc := "(IIIII)I" } : Jvm.MethodName) prog_1_method_9_code (6 : Nat) (Option.some Jvm.ClassFile.FieldType.int) ∈ wsA := List.mem_filter.mpr ⟨wt_2 (List.mem_of_getElem? (i := 198) rfl), rfl⟩
theorem wq2_199 : Jvm.Cond.methodLink "NoticeBoxes" (188 : Nat) ({ cls := "NoticeBoxes", name := "isNotice", desc := "(III)Z" } : Jvm.MethodName) ∈ wsA := List.mem_filter.mpr ⟨wt_2 (List.mem_of_getElem? (i := 199) rfl), rfl⟩
theorem wq2_200 : Jvm.Cond.static ({ cls := "NoticeBoxes", name := "isNotice", desc := "(III)Z" } : Jvm.MethodName) ∈ wsA := List.mem_filter.mpr ⟨wt_2 (List.mem_of_getElem? (i := 200) rfl), rfl⟩
theorem wq2_201 : Jvm.Cond.code ({ cls := "NoticeBoxes", name := "isNotice", desc := "(III)Z" } : Jvm.MethodName) prog_1_method_30_code (3 : Nat) (Option.some Jvm.ClassFile.FieldType.boolean) ∈ wsA := List.mem_filter.mpr ⟨wt_2 (List.mem_of_getElem? (i := 201) rfl), rfl⟩
theorem wq2_202 : Jvm.Cond.methodLink "NoticeBoxes" (191 : Nat) ({ cls := "NoticeBoxes$Box", name := "ofNotice", desc := "(III)I" } : Jvm.MethodName) ∈ wsA := List.mem_filter.mpr ⟨wt_2 (List.mem_of_getElem? (i := 202) rfl), rfl⟩
theorem wq2_203 : Jvm.Cond.static ({ cls := "NoticeBoxes$Box", name := "ofNotice", desc := "(III)I" } : Jvm.MethodName) ∈ wsA := List.mem_filter.mpr ⟨wt_2 (List.mem_of_getElem? (i := 203) rfl), rfl⟩
theorem wq2_204 : Jvm.Cond.code ({ cls := "NoticeBoxes$Box", name := "ofNotice", desc := "(III)I" } : Jvm.MethodName) prog_3_method_2_code (3 : Nat) (Option.some Jvm.ClassFile.FieldType.int) ∈ wsA := List.mem_filter.mpr ⟨wt_2 (List.mem_of_getElem? (i := 204) rfl), rfl⟩
theorem wq2_205 : Jvm.Cond.methodLink "NoticeBoxes" (195 : Nat) ({ cls := "NoticeBoxes$Journey", name := "travel", desc := "(LNoticeBoxes$State;LNoticeBoxes$Tellings;II)V" } : Jvm.MethodName) ∈ wsA := List.mem_filter.mpr ⟨wt_2 (List.mem_of_getElem? (i := 205) rfl), rfl⟩
theorem wq2_206 : Jvm.Cond.instanceMethod ({ cls := "NoticeBoxes$Journey", name := "travel", desc := "(LNoticeBoxes$State;LNoticeBoxes$Tellings;II)V" } : Jvm.MethodName) ∈ wsA := List.mem_filter.mpr ⟨wt_2 (List.mem_of_getElem? (i := 206) rfl), rfl⟩
theorem wq2_207 : Jvm.Cond.selects "NoticeBoxes$Journey" ({ cls := "NoticeBoxes$Journey", name := "travel", desc := "(LNoticeBoxes$State;LNoticeBoxes$Tellings;II)V" } : Jvm.MethodName) ({ cls := "NoticeBoxes$Journey", name := "travel", desc := "(LNoticeBoxes$State;LNoticeBoxes$Tellings;II)V" } : Jvm.MethodName) ∈ wsA := List.mem_filter.mpr ⟨wt_2 (List.mem_of_getElem? (i := 207) rfl), rfl⟩
theorem wq2_208 : Jvm.Cond.code ({ cls := "NoticeBoxes$Journey", name := "travel", desc := "(LNoticeBoxes$State;LNoticeBoxes$Tellings;II)V" } : Jvm.MethodName) prog_8_method_2_code (10 : Nat) (Option.none : Option Jvm.ClassFile.FieldType) ∈ wsA := List.mem_filter.mpr ⟨wt_2 (List.mem_of_getElem? (i := 208) rfl), rfl⟩
theorem wq2_209 : Jvm.Cond.methodLink "NoticeBoxes$Journey" (15 : Nat) ({ cls := "NoticeBoxes$State", name := "clientsWishing", desc := "(I)I" } : Jvm.MethodName) ∈ wsA := List.mem_filter.mpr ⟨wt_2 (List.mem_of_getElem? (i := 209) rfl), rfl⟩
theorem wq2_210 : Jvm.Cond.instanceMethod ({ cls := "NoticeBoxes$State", name := "clientsWishing", desc := "(I)I" } : Jvm.MethodName) ∈ wsA := List.mem_filter.mpr ⟨wt_2 (List.mem_of_getElem? (i := 210) rfl), rfl⟩
theorem wq2_211 : Jvm.Cond.selects "NoticeBoxes$State" ({ cls := "NoticeBoxes$State", name := "clientsWishing", desc := "(I)I" } : Jvm.MethodName) ({ cls := "NoticeBoxes$State", name := "clientsWishing", desc := "(I)I" } : Jvm.MethodName) ∈ wsA := List.mem_filter.mpr ⟨wt_2 (List.mem_of_getElem? (i := 211) rfl), rfl⟩
theorem wq2_212 : Jvm.Cond.code ({ cls := "NoticeBoxes$State", name := "clientsWishing", desc := "(I)I" } : Jvm.MethodName) prog_10_method_11_code (4 : Nat) (Option.some Jvm.ClassFile.FieldType.int) ∈ wsA := List.mem_filter.mpr ⟨wt_2 (List.mem_of_getElem? (i := 212) rfl), rfl⟩
theorem wq2_213 : Jvm.Cond.methodLink "NoticeBoxes$Journey" (31 : Nat) ({ cls := "NoticeBoxes$State", name := "clientsHomeAt", desc := "(I)I" } : Jvm.MethodName) ∈ wsA := List.mem_filter.mpr ⟨wt_2 (List.mem_of_getElem? (i := 213) rfl), rfl⟩
theorem wq2_214 : Jvm.Cond.methodLink "NoticeBoxes$Journey" (34 : Nat) ({ cls := "NoticeBoxes$Journey", name := "goOn", desc := "(LNoticeBoxes$State;LNoticeBoxes$Tellings;II)Z" } : Jvm.MethodName) ∈ wsA := List.mem_filter.mpr ⟨wt_2 (List.mem_of_getElem? (i := 214) rfl), rfl⟩
theorem wq2_215 : Jvm.Cond.privateMethod ({ cls := "NoticeBoxes$Journey", name := "goOn", desc := "(LNoticeBoxes$State;LNoticeBoxes$Tellings;II)Z" } : Jvm.MethodName) ∈ lw_tbl := wt_2 (List.mem_of_getElem? (i := 215) rfl)
theorem wq2_216 : Jvm.Cond.instanceMethod ({ cls := "NoticeBoxes$Journey", name := "goOn", desc := "(LNoticeBoxes$State;LNoticeBoxes$Tellings;II)Z" } : Jvm.MethodName) ∈ wsA := List.mem_filter.mpr ⟨wt_2 (List.mem_of_getElem? (i := 216) rfl), rfl⟩
theorem wq2_217 : Jvm.Cond.code ({ cls := "NoticeBoxes$Journey", name := "goOn", desc := "(LNoticeBoxes$State;LNoticeBoxes$Tellings;II)Z" } : Jvm.MethodName) prog_8_method_3_code (8 : Nat) (Option.some Jvm.ClassFile.FieldType.boolean) ∈ wsA := List.mem_filter.mpr ⟨wt_2 (List.mem_of_getElem? (i := 217) rfl), rfl⟩
theorem wq2_218 : Jvm.Cond.methodLinkNest "NoticeBoxes$Journey" (44 : Nat) ({ cls := "NoticeBoxes", name := "holds", desc := "(II)Z" } : Jvm.MethodName) "NoticeBoxes" ∈ lw_tbl := wt_2 (List.mem_of_getElem? (i := 218) rfl)
theorem wq2_219 : Jvm.Cond.methodLink "NoticeBoxes$Journey" (48 : Nat) ({ cls := "NoticeBoxes$State", name := "areNeighbours", desc := "(II)Z" } : Jvm.MethodName) ∈ wsA := List.mem_filter.mpr ⟨wt_2 (List.mem_of_getElem? (i := 219) rfl), rfl⟩
theorem wq2_220 : Jvm.Cond.methodLink "NoticeBoxes$Journey" (51 : Nat) ({ cls := "NoticeBoxes$Tellings", name := "between", desc := "(LNoticeBoxes$State;II)LNoticeBoxes$BoxList;" } : Jvm.MethodName) ∈ wsA := List.mem_filter.mpr ⟨wt_2 (List.mem_of_getElem? (i := 220) rfl), rfl⟩
theorem wq2_221 : Jvm.Cond.methodLink "NoticeBoxes$Journey" (57 : Nat) ({ cls := "NoticeBoxes$BoxList", name := "covers", desc := "(I)Z" } : Jvm.MethodName) ∈ wsA := List.mem_filter.mpr ⟨wt_2 (List.mem_of_getElem? (i := 221) rfl), rfl⟩
theorem wq2_222 : Jvm.Cond.methodLink "NoticeBoxesLaw" (49 : Nat) ({ cls := "NoticeBoxes", name := "broker", desc := "(I)I" } : Jvm.MethodName) ∈ wsA := List.mem_filter.mpr ⟨wt_2 (List.mem_of_getElem? (i := 222) rfl), rfl⟩
theorem wq2_223 : Jvm.Cond.instanceMethod ({ cls := "NoticeBoxes", name := "broker", desc := "(I)I" } : Jvm.MethodName) ∈ wsA := List.mem_filter.mpr ⟨wt_2 (List.mem_of_getElem? (i := 223) rfl), rfl⟩
theorem wq2_224 : Jvm.Cond.selects "NoticeBoxes" ({ cls := "NoticeBoxes", name := "broker", desc := "(I)I" } : Jvm.MethodName) ({ cls := "NoticeBoxes", name := "broker", desc := "(I)I" } : Jvm.MethodName) ∈ wsA := List.mem_filter.mpr ⟨wt_2 (List.mem_of_getElem? (i := 224) rfl), rfl⟩
theorem wq2_225 : Jvm.Cond.code ({ cls := "NoticeBoxes", name := "broker", desc := "(I)I" } : Jvm.MethodName) prog_1_method_10_code (2 : Nat) (Option.some Jvm.ClassFile.FieldType.int) ∈ wsA := List.mem_filter.mpr ⟨wt_2 (List.mem_of_getElem? (i := 225) rfl), rfl⟩
theorem wq2_226 : Jvm.Cond.constant "NoticeBoxes" (211 : Nat) (-1000000004 : Int32) ∈ wsA := List.mem_filter.mpr ⟨wt_2 (List.mem_of_getElem? (i := 226) rfl), rfl⟩
theorem wq2_227 : Jvm.Cond.methodLink "NoticeBoxes" (212 : Nat) ({ cls := "NoticeBoxes$Past", name := "remember", desc := "(LNoticeBoxes$State;)V" } : Jvm.MethodName) ∈ wsA := List.mem_filter.mpr ⟨wt_2 (List.mem_of_getElem? (i := 227) rfl), rfl⟩
theorem wq2_228 : Jvm.Cond.instanceMethod ({ cls := "NoticeBoxes$Past", name := "remember", desc := "(LNoticeBoxes$State;)V" } : Jvm.MethodName) ∈ wsA := List.mem_filter.mpr ⟨wt_2 (List.mem_of_getElem? (i := 228) rfl), rfl⟩
theorem wq2_229 : Jvm.Cond.selects "NoticeBoxes$Past" ({ cls := "NoticeBoxes$Past", name := "remember", desc := "(LNoticeBoxes$State;)V" } : Jvm.MethodName) ({ cls := "NoticeBoxes$Past", name := "remember", desc := "(LNoticeBoxes$State;)V" } : Jvm.MethodName) ∈ wsA := List.mem_filter.mpr ⟨wt_2 (List.mem_of_getElem? (i := 229) rfl), rfl⟩
theorem wq2_230 : Jvm.Cond.code ({ cls := "NoticeBoxes$Past", name := "remember", desc := "(LNoticeBoxes$State;)V" } : Jvm.MethodName) prog_9_method_2_code (2 : Nat) (Option.none : Option Jvm.ClassFile.FieldType) ∈ wsA := List.mem_filter.mpr ⟨wt_2 (List.mem_of_getElem? (i := 230) rfl), rfl⟩
theorem wq2_231 : Jvm.Cond.methodLink "NoticeBoxes$Past" (25 : Nat) ({ cls := "NoticeBoxes$State", name := "copyFrom", desc := "(LNoticeBoxes$State;)V" } : Jvm.MethodName) ∈ wsA := List.mem_filter.mpr ⟨wt_2 (List.mem_of_getElem? (i := 231) rfl), rfl⟩
theorem wq2_232 : Jvm.Cond.instanceMethod ({ cls := "NoticeBoxes$State", name := "copyFrom", desc := "(LNoticeBoxes$State;)V" } : Jvm.MethodName) ∈ wsA := List.mem_filter.mpr ⟨wt_2 (List.mem_of_getElem? (i := 232) rfl), rfl⟩
theorem wq2_233 : Jvm.Cond.selects "NoticeBoxes$State" ({ cls := "NoticeBoxes$State", name := "copyFrom", desc := "(LNoticeBoxes$State;)V" } : Jvm.MethodName) ({ cls := "NoticeBoxes$State", name := "copyFrom", desc := "(LNoticeBoxes$State;)V" } : Jvm.MethodName) ∈ wsA := List.mem_filter.mpr ⟨wt_2 (List.mem_of_getElem? (i := 233) rfl), rfl⟩
theorem wq2_234 : Jvm.Cond.code ({ cls := "NoticeBoxes$State", name := "copyFrom", desc := "(LNoticeBoxes$State;)V" } : Jvm.MethodName) prog_10_method_2_code (3 : Nat) (Option.none : Option Jvm.ClassFile.FieldType) ∈ wsA := List.mem_filter.mpr ⟨wt_2 (List.mem_of_getElem? (i := 234) rfl), rfl⟩
theorem wq2_235 : Jvm.Cond.methodLink "NoticeBoxes$State" (50 : Nat) ({ cls := "java/lang/System", name := "arraycopy", desc := "(Ljava/lang/Object;ILjava/lang/Object;II)V" } : Jvm.MethodName) ∈ wsA := List.mem_filter.mpr ⟨wt_2 (List.mem_of_getElem? (i := 235) rfl), rfl⟩
theorem wq2_236 : Jvm.Cond.static ({ cls := "java/lang/System", name := "arraycopy", desc := "(Ljava/lang/Object;ILjava/lang/Object;II)V" } : Jvm.MethodName) ∈ wsA := List.mem_filter.mpr ⟨wt_2 (List.mem_of_getElem? (i := 236) rfl), rfl⟩
theorem wq2_237 : Jvm.Cond.native ({ cls := "java/lang/System", name := "arraycopy", desc := "(Ljava/lang/Object;ILjava/lang/Object;II)V" } : Jvm.MethodName) ∈ wsA := List.mem_filter.mpr ⟨wt_2 (List.mem_of_getElem? (i := 237) rfl), rfl⟩
theorem wq2_238 : Jvm.Cond.methodLink "NoticeBoxes$State" (56 : Nat) ({ cls := "NoticeBoxes$Client", name := "copyFrom", desc := "(LNoticeBoxes$Client;)V" } : Jvm.MethodName) ∈ wsA := List.mem_filter.mpr ⟨wt_2 (List.mem_of_getElem? (i := 238) rfl), rfl⟩
theorem wq2_239 : Jvm.Cond.instanceMethod ({ cls := "NoticeBoxes$Client", name := "copyFrom", desc := "(LNoticeBoxes$Client;)V" } : Jvm.MethodName) ∈ wsA := List.mem_filter.mpr ⟨wt_2 (List.mem_of_getElem? (i := 239) rfl), rfl⟩
theorem wq3_0 : Jvm.Cond.selects "NoticeBoxes$Client" ({ cls := "NoticeBoxes$Client", name := "copyFrom", desc := "(LNoticeBoxes$Client;)V" } : Jvm.MethodName) ({ cls := "NoticeBoxes$Client", name := "copyFrom", desc := "(LNoticeBoxes$Client;)V" } : Jvm.MethodName) ∈ wsA := List.mem_filter.mpr ⟨wt_3 (List.mem_of_getElem? (i := 0) rfl), rfl⟩
theorem wq3_1 : Jvm.Cond.code ({ cls := "NoticeBoxes$Client", name := "copyFrom", desc := "(LNoticeBoxes$Client;)V" } : Jvm.MethodName) prog_5_method_3_code (2 : Nat) (Option.none : Option Jvm.ClassFile.FieldType) ∈ wsA := List.mem_filter.mpr ⟨wt_3 (List.mem_of_getElem? (i := 1) rfl), rfl⟩
theorem wq3_2 : Jvm.Cond.methodLink "NoticeBoxes$Client" (35 : Nat) ({ cls := "java/lang/System", name := "arraycopy", desc := "(Ljava/lang/Object;ILjava/lang/Object;II)V" } : Jvm.MethodName) ∈ wsA := List.mem_filter.mpr ⟨wt_3 (List.mem_of_getElem? (i := 2) rfl), rfl⟩
theorem wq3_3 : Jvm.Cond.methodLink "NoticeBoxes" (215 : Nat) ({ cls := "NoticeBoxes$Tellings", name := "outdate", desc := "()V" } : Jvm.MethodName) ∈ wsA := List.mem_filter.mpr ⟨wt_3 (List.mem_of_getElem? (i := 3) rfl), rfl⟩
theorem wq3_4 : Jvm.Cond.instanceMethod ({ cls := "NoticeBoxes$Tellings", name := "outdate", desc := "()V" } : Jvm.MethodName) ∈ wsA := List.mem_filter.mpr ⟨wt_3 (List.mem_of_getElem? (i := 4) rfl), rfl⟩
theorem wq3_5 : Jvm.Cond.selects "NoticeBoxes$Tellings" ({ cls := "NoticeBoxes$Tellings", name := "outdate", desc := "()V" } : Jvm.MethodName) ({ cls := "NoticeBoxes$Tellings", name := "outdate", desc := "()V" } : Jvm.MethodName) ∈ wsA := List.mem_filter.mpr ⟨wt_3 (List.mem_of_getElem? (i := 5) rfl), rfl⟩
theorem wq3_6 : Jvm.Cond.code ({ cls := "NoticeBoxes$Tellings", name := "outdate", desc := "()V" } : Jvm.MethodName) prog_11_method_2_code (1 : Nat) (Option.none : Option Jvm.ClassFile.FieldType) ∈ wsA := List.mem_filter.mpr ⟨wt_3 (List.mem_of_getElem? (i := 6) rfl), rfl⟩
theorem wq3_7 : Jvm.Cond.methodLink "NoticeBoxes" (218 : Nat) ({ cls := "NoticeBoxes$State", name := "addBroker", desc := "(I)I" } : Jvm.MethodName) ∈ wsA := List.mem_filter.mpr ⟨wt_3 (List.mem_of_getElem? (i := 7) rfl), rfl⟩
theorem wq3_8 : Jvm.Cond.instanceMethod ({ cls := "NoticeBoxes$State", name := "addBroker", desc := "(I)I" } : Jvm.MethodName) ∈ wsA := List.mem_filter.mpr ⟨wt_3 (List.mem_of_getElem? (i := 8) rfl), rfl⟩
theorem wq3_9 : Jvm.Cond.selects "NoticeBoxes$State" ({ cls := "NoticeBoxes$State", name := "addBroker", desc := "(I)I" } : Jvm.MethodName) ({ cls := "NoticeBoxes$State", name := "addBroker", desc := "(I)I" } : Jvm.MethodName) ∈ wsA := List.mem_filter.mpr ⟨wt_3 (List.mem_of_getElem? (i := 9) rfl), rfl⟩
theorem wq3_10 : Jvm.Cond.code ({ cls := "NoticeBoxes$State", name := "addBroker", desc := "(I)I" } : Jvm.MethodName) prog_10_method_13_code (2 : Nat) (Option.some Jvm.ClassFile.FieldType.int) ∈ wsA := List.mem_filter.mpr ⟨wt_3 (List.mem_of_getElem? (i := 10) rfl), rfl⟩
theorem wq3_11 : Jvm.Cond.methodLink "NoticeBoxesLaw" (53 : Nat) ({ cls := "NoticeBoxes", name := "client", desc := "(I)I" } : Jvm.MethodName) ∈ wsA := List.mem_filter.mpr ⟨wt_3 (List.mem_of_getElem? (i := 11) rfl), rfl⟩
theorem wq3_12 : Jvm.Cond.instanceMethod ({ cls := "NoticeBoxes", name := "client", desc := "(I)I" } : Jvm.MethodName) ∈ wsA := List.mem_filter.mpr ⟨wt_3 (List.mem_of_getElem? (i := 12) rfl), rfl⟩
theorem wq3_13 : Jvm.Cond.selects "NoticeBoxes" ({ cls := "NoticeBoxes", name := "client", desc := "(I)I" } : Jvm.MethodName) ({ cls := "NoticeBoxes", name := "client", desc := "(I)I" } : Jvm.MethodName) ∈ wsA := List.mem_filter.mpr ⟨wt_3 (List.mem_of_getElem? (i := 13) rfl), rfl⟩
theorem wq3_14 : Jvm.Cond.code ({ cls := "NoticeBoxes", name := "client", desc := "(I)I" } : Jvm.MethodName) prog_1_method_11_code (2 : Nat) (Option.some Jvm.ClassFile.FieldType.int) ∈ wsA := List.mem_filter.mpr ⟨wt_3 (List.mem_of_getElem? (i := 14) rfl), rfl⟩
theorem wq3_15 : Jvm.Cond.methodLink "NoticeBoxes" (221 : Nat) ({ cls := "NoticeBoxes$State", name := "addClient", desc := "(I)I" } : Jvm.MethodName) ∈ wsA := List.mem_filter.mpr ⟨wt_3 (List.mem_of_getElem? (i := 15) rfl), rfl⟩
theorem wq3_16 : Jvm.Cond.instanceMethod ({ cls := "NoticeBoxes$State", name := "addClient", desc := "(I)I" } : Jvm.MethodName) ∈ wsA := List.mem_filter.mpr ⟨wt_3 (List.mem_of_getElem? (i := 16) rfl), rfl⟩
theorem wq3_17 : Jvm.Cond.selects "NoticeBoxes$State" ({ cls := "NoticeBoxes$State", name := "addClient", desc := "(I)I" } : Jvm.MethodName) ({ cls := "NoticeBoxes$State", name := "addClient", desc := "(I)I" } : Jvm.MethodName) ∈ wsA := List.mem_filter.mpr ⟨wt_3 (List.mem_of_getElem? (i := 17) rfl), rfl⟩
theorem wq3_18 : Jvm.Cond.code ({ cls := "NoticeBoxes$State", name := "addClient", desc := "(I)I" } : Jvm.MethodName) prog_10_method_14_code (2 : Nat) (Option.some Jvm.ClassFile.FieldType.int) ∈ wsA := List.mem_filter.mpr ⟨wt_3 (List.mem_of_getElem? (i := 18) rfl), rfl⟩
theorem wq3_19 : Jvm.Cond.methodLink "NoticeBoxes$State" (83 : Nat) ({ cls := "NoticeBoxes$Client", name := "begin", desc := "(I)V" } : Jvm.MethodName) ∈ wsA := List.mem_filter.mpr ⟨wt_3 (List.mem_of_getElem? (i := 19) rfl), rfl⟩
theorem wq3_20 : Jvm.Cond.instanceMethod ({ cls := "NoticeBoxes$Client", name := "begin", desc := "(I)V" } : Jvm.MethodName) ∈ wsA := List.mem_filter.mpr ⟨wt_3 (List.mem_of_getElem? (i := 20) rfl), rfl⟩
theorem wq3_21 : Jvm.Cond.selects "NoticeBoxes$Client" ({ cls := "NoticeBoxes$Client", name := "begin", desc := "(I)V" } : Jvm.MethodName) ({ cls := "NoticeBoxes$Client", name := "begin", desc := "(I)V" } : Jvm.MethodName) ∈ wsA := List.mem_filter.mpr ⟨wt_3 (List.mem_of_getElem? (i := 21) rfl), rfl⟩
theorem wq3_22 : Jvm.Cond.code ({ cls := "NoticeBoxes$Client", name := "begin", desc := "(I)V" } : Jvm.MethodName) prog_5_method_2_code (2 : Nat) (Option.none : Option Jvm.ClassFile.FieldType) ∈ wsA := List.mem_filter.mpr ⟨wt_3 (List.mem_of_getElem? (i := 22) rfl), rfl⟩
theorem wq3_23 : Jvm.Cond.methodLink "NoticeBoxesLaw" (57 : Nat) ({ cls := "NoticeBoxes", name := "wish", desc := "(IIIIIII)I" } : Jvm.MethodName) ∈ wsA := List.mem_filter.mpr ⟨wt_3 (List.mem_of_getElem? (i := 23) rfl), rfl⟩
theorem wq3_24 : Jvm.Cond.instanceMethod ({ cls := "NoticeBoxes", name := "wish", desc := "(IIIIIII)I" } : Jvm.MethodName) ∈ wsA := List.mem_filter.mpr ⟨wt_3 (List.mem_of_getElem? (i := 24) rfl), rfl⟩
theorem wq3_25 : Jvm.Cond.selects "NoticeBoxes" ({ cls := "NoticeBoxes", name := "wish", desc := "(IIIIIII)I" } : Jvm.MethodName) ({ cls := "NoticeBoxes", name := "wish", desc := "(IIIIIII)I" } : Jvm.MethodName) ∈ wsA := List.mem_filter.mpr ⟨wt_3 (List.mem_of_getElem? (i := 25) rfl), rfl⟩
theorem wq3_26 : Jvm.Cond.code ({ cls := "NoticeBoxes", name := "wish", desc := "(IIIIIII)I" } : Jvm.MethodName) prog_1_method_12_code (9 : Nat) (Option.some Jvm.ClassFile.FieldType.int) ∈ wsA := List.mem_filter.mpr ⟨wt_3 (List.mem_of_getElem? (i := 26) rfl), rfl⟩
theorem wq3_27 : Jvm.Cond.methodLink "NoticeBoxes" (224 : Nat) ({ cls := "NoticeBoxes", name := "isKind", desc := "(I)Z" } : Jvm.MethodName) ∈ wsA := List.mem_filter.mpr ⟨wt_3 (List.mem_of_getElem? (i := 27) rfl), rfl⟩
theorem wq3_28 : Jvm.Cond.static ({ cls := "NoticeBoxes", name := "isKind", desc := "(I)Z" } : Jvm.MethodName) ∈ wsA := List.mem_filter.mpr ⟨wt_3 (List.mem_of_getElem? (i := 28) rfl), rfl⟩
theorem wq3_29 : Jvm.Cond.code ({ cls := "NoticeBoxes", name := "isKind", desc := "(I)Z" } : Jvm.MethodName) prog_1_method_29_code (1 : Nat) (Option.some Jvm.ClassFile.FieldType.boolean) ∈ wsA := List.mem_filter.mpr ⟨wt_3 (List.mem_of_getElem? (i := 29) rfl), rfl⟩
theorem wq3_30 : Jvm.Cond.methodLink "NoticeBoxes" (227 : Nat) ({ cls := "NoticeBoxes$Box", name := "withKind", desc := "(III)I" } : Jvm.MethodName) ∈ wsA := List.mem_filter.mpr ⟨wt_3 (List.mem_of_getElem? (i := 30) rfl), rfl⟩
theorem wq3_31 : Jvm.Cond.static ({ cls := "NoticeBoxes$Box", name := "withKind", desc := "(III)I" } : Jvm.MethodName) ∈ wsA := List.mem_filter.mpr ⟨wt_3 (List.mem_of_getElem? (i := 31) rfl), rfl⟩
theorem wq3_32 : Jvm.Cond.code ({ cls := "NoticeBoxes$Box", name := "withKind", desc := "(III)I" } : Jvm.MethodName) prog_3_method_4_code (5 : Nat) (Option.some Jvm.ClassFile.FieldType.int) ∈ wsA := List.mem_filter.mpr ⟨wt_3 (List.mem_of_getElem? (i := 32) rfl), rfl⟩
theorem wq3_33 : Jvm.Cond.methodLink "NoticeBoxes" (230 : Nat) ({ cls := "NoticeBoxes$State", name := "addWish", desc := "(II)I" } : Jvm.MethodName) ∈ wsA := List.mem_filter.mpr ⟨wt_3 (List.mem_of_getElem? (i := 33) rfl), rfl⟩
theorem wq3_34 : Jvm.Cond.instanceMethod ({ cls := "NoticeBoxes$State", name := "addWish", desc := "(II)I" } : Jvm.MethodName) ∈ wsA := List.mem_filter.mpr ⟨wt_3 (List.mem_of_getElem? (i := 34) rfl), rfl⟩
theorem wq3_35 : Jvm.Cond.selects "NoticeBoxes$State" ({ cls := "NoticeBoxes$State", name := "addWish", desc := "(II)I" } : Jvm.MethodName) ({ cls := "NoticeBoxes$State", name := "addWish", desc := "(II)I" } : Jvm.MethodName) ∈ wsA := List.mem_filter.mpr ⟨wt_3 (List.mem_of_getElem? (i := 35) rfl), rfl⟩
theorem wq3_36 : Jvm.Cond.code ({ cls := "NoticeBoxes$State", name := "addWish", desc := "(II)I" } : Jvm.MethodName) prog_10_method_15_code (3 : Nat) (Option.some Jvm.ClassFile.FieldType.int) ∈ wsA := List.mem_filter.mpr ⟨wt_3 (List.mem_of_getElem? (i := 36) rfl), rfl⟩
theorem wq3_37 : Jvm.Cond.methodLink "NoticeBoxesLaw" (62 : Nat) ({ cls := "NoticeBoxes", name := "drop", desc := "(I)I" } : Jvm.MethodName) ∈ wsA := List.mem_filter.mpr ⟨wt_3 (List.mem_of_getElem? (i := 37) rfl), rfl⟩
theorem wq3_38 : Jvm.Cond.instanceMethod ({ cls := "NoticeBoxes", name := "drop", desc := "(I)I" } : Jvm.MethodName) ∈ wsA := List.mem_filter.mpr ⟨wt_3 (List.mem_of_getElem? (i := 38) rfl), rfl⟩
theorem wq3_39 : Jvm.Cond.selects "NoticeBoxes" ({ cls := "NoticeBoxes", name := "drop", desc := "(I)I" } : Jvm.MethodName) ({ cls := "NoticeBoxes", name := "drop", desc := "(I)I" } : Jvm.MethodName) ∈ wsA := List.mem_filter.mpr ⟨wt_3 (List.mem_of_getElem? (i := 39) rfl), rfl⟩
theorem wq3_40 : Jvm.Cond.code ({ cls := "NoticeBoxes", name := "drop", desc := "(I)I" } : Jvm.MethodName) prog_1_method_13_code (2 : Nat) (Option.some Jvm.ClassFile.FieldType.int) ∈ wsA := List.mem_filter.mpr ⟨wt_3 (List.mem_of_getElem? (i := 40) rfl), rfl⟩
theorem wq3_41 : Jvm.Cond.methodLink "NoticeBoxes" (233 : Nat) ({ cls := "NoticeBoxes$State", name := "removeWish", desc := "(I)V" } : Jvm.MethodName) ∈ wsA := List.mem_filter.mpr ⟨wt_3 (List.mem_of_getElem? (i := 41) rfl), rfl⟩
theorem wq3_42 : Jvm.Cond.instanceMethod ({ cls := "NoticeBoxes$State", name := "removeWish", desc := "(I)V" } : Jvm.MethodName) ∈ wsA := List.mem_filter.mpr ⟨wt_3 (List.mem_of_getElem? (i := 42) rfl), rfl⟩
theorem wq3_43 : Jvm.Cond.selects "NoticeBoxes$State" ({ cls := "NoticeBoxes$State", name := "removeWish", desc := "(I)V" } : Jvm.MethodName) ({ cls := "NoticeBoxes$State", name := "removeWish", desc := "(I)V" } : Jvm.MethodName) ∈ wsA := List.mem_filter.mpr ⟨wt_3 (List.mem_of_getElem? (i := 43) rfl), rfl⟩
theorem wq3_44 : Jvm.Cond.code ({ cls := "NoticeBoxes$State", name := "removeWish", desc := "(I)V" } : Jvm.MethodName) prog_10_method_16_code (3 : Nat) (Option.none : Option Jvm.ClassFile.FieldType) ∈ wsA := List.mem_filter.mpr ⟨wt_3 (List.mem_of_getElem? (i := 44) rfl), rfl⟩
theorem wq3_45 : Jvm.Cond.methodLink "NoticeBoxesLaw" (66 : Nat) ({ cls := "NoticeBoxes", name := "most", desc := "(I)I" } : Jvm.MethodName) ∈ wsA := List.mem_filter.mpr ⟨wt_3 (List.mem_of_getElem? (i := 45) rfl), rfl⟩
theorem wq3_46 : Jvm.Cond.instanceMethod ({ cls := "NoticeBoxes", name := "most", desc := "(I)I" } : Jvm.MethodName) ∈ wsA := List.mem_filter.mpr ⟨wt_3 (List.mem_of_getElem? (i := 46) rfl), rfl⟩
theorem wq3_47 : Jvm.Cond.selects "NoticeBoxes" ({ cls := "NoticeBoxes", name := "most", desc := "(I)I" } : Jvm.MethodName) ({ cls := "NoticeBoxes", name := "most", desc := "(I)I" } : Jvm.MethodName) ∈ wsA := List.mem_filter.mpr ⟨wt_3 (List.mem_of_getElem? (i := 47) rfl), rfl⟩
theorem wq3_48 : Jvm.Cond.code ({ cls := "NoticeBoxes", name := "most", desc := "(I)I" } : Jvm.MethodName) prog_1_method_14_code (3 : Nat) (Option.some Jvm.ClassFile.FieldType.int) ∈ wsA := List.mem_filter.mpr ⟨wt_3 (List.mem_of_getElem? (i := 48) rfl), rfl⟩
theorem wq3_49 : Jvm.Cond.methodLink "NoticeBoxesLaw" (70 : Nat) ({ cls := "NoticeBoxes", name := "put", desc := "(IIII)I" } : Jvm.MethodName) ∈ wsA := List.mem_filter.mpr ⟨wt_3 (List.mem_of_getElem? (i := 49) rfl), rfl⟩
theorem wq3_50 : Jvm.Cond.instanceMethod ({ cls := "NoticeBoxes", name := "put", desc := "(IIII)I" } : Jvm.MethodName) ∈ wsA := List.mem_filter.mpr ⟨wt_3 (List.mem_of_getElem? (i := 50) rfl), rfl⟩
theorem wq3_51 : Jvm.Cond.selects "NoticeBoxes" ({ cls := "NoticeBoxes", name := "put", desc := "(IIII)I" } : Jvm.MethodName) ({ cls := "NoticeBoxes", name := "put", desc := "(IIII)I" } : Jvm.MethodName) ∈ wsA := List.mem_filter.mpr ⟨wt_3 (List.mem_of_getElem? (i := 51) rfl), rfl⟩
theorem wq3_52 : Jvm.Cond.code ({ cls := "NoticeBoxes", name := "put", desc := "(IIII)I" } : Jvm.MethodName) prog_1_method_15_code (5 : Nat) (Option.some Jvm.ClassFile.FieldType.int) ∈ wsA := List.mem_filter.mpr ⟨wt_3 (List.mem_of_getElem? (i := 52) rfl), rfl⟩
theorem wq3_53 : Jvm.Cond.methodLink "NoticeBoxes" (237 : Nat) ({ cls := "NoticeBoxes", name := "deliver", desc := "(II)I" } : Jvm.MethodName) ∈ wsA := List.mem_filter.mpr ⟨wt_3 (List.mem_of_getElem? (i := 53) rfl), rfl⟩
theorem wq3_54 : Jvm.Cond.privateMethod ({ cls := "NoticeBoxes", name := "deliver", desc := "(II)I" } : Jvm.MethodName) ∈ lw_tbl := wt_3 (List.mem_of_getElem? (i := 54) rfl)
theorem wq3_55 : Jvm.Cond.instanceMethod ({ cls := "NoticeBoxes", name := "deliver", desc := "(II)I" } : Jvm.MethodName) ∈ wsA := List.mem_filter.mpr ⟨wt_3 (List.mem_of_getElem? (i := 55) rfl), rfl⟩
theorem wq3_56 : Jvm.Cond.code ({ cls := "NoticeBoxes", name := "deliver", desc := "(II)I" } : Jvm.MethodName) prog_1_method_26_code (3 : Nat) (Option.some Jvm.ClassFile.FieldType.int) ∈ wsA := List.mem_filter.mpr ⟨wt_3 (List.mem_of_getElem? (i := 56) rfl), rfl⟩
theorem wq3_57 : Jvm.Cond.methodLink "NoticeBoxes" (271 : Nat) ({ cls := "NoticeBoxes$State", name := "hand", desc := "(LNoticeBoxes$Journey;)V" } : Jvm.MethodName) ∈ wsA := List.mem_filter.mpr ⟨wt_3 (List.mem_of_getElem? (i := 57) rfl), rfl⟩
theorem wq3_58 : Jvm.Cond.instanceMethod ({ cls := "NoticeBoxes$State", name := "hand", desc := "(LNoticeBoxes$Journey;)V" } : Jvm.MethodName) ∈ wsA := List.mem_filter.mpr ⟨wt_3 (List.mem_of_getElem? (i := 58) rfl), rfl⟩
theorem wq3_59 : Jvm.Cond.selects "NoticeBoxes$State" ({ cls := "NoticeBoxes$State", name := "hand", desc := "(LNoticeBoxes$Journey;)V" } : Jvm.MethodName) ({ cls := "NoticeBoxes$State", name := "hand", desc := "(LNoticeBoxes$Journey;)V" } : Jvm.MethodName) ∈ wsA := List.mem_filter.mpr ⟨wt_3 (List.mem_of_getElem? (i := 59) rfl), rfl⟩
theorem wq3_60 : Jvm.Cond.code ({ cls := "NoticeBoxes$State", name := "hand", desc := "(LNoticeBoxes$Journey;)V" } : Jvm.MethodName) prog_10_method_18_code (3 : Nat) (Option.none : Option Jvm.ClassFile.FieldType) ∈ wsA := List.mem_filter.mpr ⟨wt_3 (List.mem_of_getElem? (i := 60) rfl), rfl⟩
theorem wq3_61 : Jvm.Cond.methodLink "NoticeBoxes$State" (95 : Nat) ({ cls := "NoticeBoxes$Client", name := "receive", desc := "(I)V" } : Jvm.MethodName) ∈ wsA := List.mem_filter.mpr ⟨wt_3 (List.mem_of_getElem? (i := 61) rfl), rfl⟩
theorem wq3_62 : Jvm.Cond.instanceMethod ({ cls := "NoticeBoxes$Client", name := "receive", desc := "(I)V" } : Jvm.MethodName) ∈ wsA := List.mem_filter.mpr ⟨wt_3 (List.mem_of_getElem? (i := 62) rfl), rfl⟩
theorem wq3_63 : Jvm.Cond.selects "NoticeBoxes$Client" ({ cls := "NoticeBoxes$Client", name := "receive", desc := "(I)V" } : Jvm.MethodName) ({ cls := "NoticeBoxes$Client", name := "receive", desc := "(I)V" } : Jvm.MethodName) ∈ wsA := List.mem_filter.mpr ⟨wt_3 (List.mem_of_getElem? (i := 63) rfl), rfl⟩
theorem wq3_64 : Jvm.Cond.code ({ cls := "NoticeBoxes$Client", name := "receive", desc := "(I)V" } : Jvm.MethodName) prog_5_method_5_code (2 : Nat) (Option.none : Option Jvm.ClassFile.FieldType) ∈ wsA := List.mem_filter.mpr ⟨wt_3 (List.mem_of_getElem? (i := 64) rfl), rfl⟩
theorem wq3_65 : Jvm.Cond.methodLink "NoticeBoxes$Client" (41 : Nat) ({ cls := "NoticeBoxes$Client", name := "enter", desc := "(I)V" } : Jvm.MethodName) ∈ wsA := List.mem_filter.mpr ⟨wt_3 (List.mem_of_getElem? (i := 65) rfl), rfl⟩
theorem wq3_66 : Jvm.Cond.privateMethod ({ cls := "NoticeBoxes$Client", name := "enter", desc := "(I)V" } : Jvm.MethodName) ∈ lw_tbl := wt_3 (List.mem_of_getElem? (i := 66) rfl)
theorem wq3_67 : Jvm.Cond.instanceMethod ({ cls := "NoticeBoxes$Client", name := "enter", desc := "(I)V" } : Jvm.MethodName) ∈ wsA := List.mem_filter.mpr ⟨wt_3 (List.mem_of_getElem? (i := 67) rfl), rfl⟩
theorem wq3_68 : Jvm.Cond.code ({ cls := "NoticeBoxes$Client", name := "enter", desc := "(I)V" } : Jvm.MethodName) prog_5_method_7_code (3 : Nat) (Option.none : Option Jvm.ClassFile.FieldType) ∈ wsA := List.mem_filter.mpr ⟨wt_3 (List.mem_of_getElem? (i := 68) rfl), rfl⟩
theorem wq3_69 : Jvm.Cond.methodLink "NoticeBoxes$Client" (45 : Nat) ({ cls := "NoticeBoxes$Client", name := "store", desc := "(I)V" } : Jvm.MethodName) ∈ wsA := List.mem_filter.mpr ⟨wt_3 (List.mem_of_getElem? (i := 69) rfl), rfl⟩
theorem wq3_70 : Jvm.Cond.privateMethod ({ cls := "NoticeBoxes$Client", name := "store", desc := "(I)V" } : Jvm.MethodName) ∈ lw_tbl := wt_3 (List.mem_of_getElem? (i := 70) rfl)
theorem wq3_71 : Jvm.Cond.instanceMethod ({ cls := "NoticeBoxes$Client", name := "store", desc := "(I)V" } : Jvm.MethodName) ∈ wsA := List.mem_filter.mpr ⟨wt_3 (List.mem_of_getElem? (i := 71) rfl), rfl⟩
theorem wq3_72 : Jvm.Cond.code ({ cls := "NoticeBoxes$Client", name := "store", desc := "(I)V" } : Jvm.MethodName) prog_5_method_8_code (2 : Nat) (Option.none : Option Jvm.ClassFile.FieldType) ∈ wsA := List.mem_filter.mpr ⟨wt_3 (List.mem_of_getElem? (i := 72) rfl), rfl⟩
theorem wq3_73 : Jvm.Cond.methodLink "NoticeBoxes$Client" (48 : Nat) ({ cls := "NoticeBoxes$Client", name := "loseFirst", desc := "()V" } : Jvm.MethodName) ∈ wsA := List.mem_filter.mpr ⟨wt_3 (List.mem_of_getElem? (i := 73) rfl), rfl⟩
theorem wq3_74 : Jvm.Cond.privateMethod ({ cls := "NoticeBoxes$Client", name := "loseFirst", desc := "()V" } : Jvm.MethodName) ∈ lw_tbl := wt_3 (List.mem_of_getElem? (i := 74) rfl)
theorem wq3_75 : Jvm.Cond.instanceMethod ({ cls := "NoticeBoxes$Client", name := "loseFirst", desc := "()V" } : Jvm.MethodName) ∈ wsA := List.mem_filter.mpr ⟨wt_3 (List.mem_of_getElem? (i := 75) rfl), rfl⟩
theorem wq3_76 : Jvm.Cond.code ({ cls := "NoticeBoxes$Client", name := "loseFirst", desc := "()V" } : Jvm.MethodName) prog_5_method_9_code (2 : Nat) (Option.none : Option Jvm.ClassFile.FieldType) ∈ wsA := List.mem_filter.mpr ⟨wt_3 (List.mem_of_getElem? (i := 76) rfl), rfl⟩
theorem wq3_77 : Jvm.Cond.methodLink "NoticeBoxes$State" (104 : Nat) ({ cls := "java/lang/Integer", name := "bitCount", desc := "(I)I" } : Jvm.MethodName) ∈ wsA := List.mem_filter.mpr ⟨wt_3 (List.mem_of_getElem? (i := 77) rfl), rfl⟩
theorem wq3_78 : Jvm.Cond.static ({ cls := "java/lang/Integer", name := "bitCount", desc := "(I)I" } : Jvm.MethodName) ∈ wsA := List.mem_filter.mpr ⟨wt_3 (List.mem_of_getElem? (i := 78) rfl), rfl⟩
theorem wq3_79 : Jvm.Cond.code ({ cls := "java/lang/Integer", name := "bitCount", desc := "(I)I" } : Jvm.MethodName) prog_14_method_49_code (1 : Nat) (Option.some Jvm.ClassFile.FieldType.int) ∈ wsA := List.mem_filter.mpr ⟨wt_3 (List.mem_of_getElem? (i := 79) rfl), rfl⟩
theorem wq3_80 : Jvm.Cond.constant "java/lang/Integer" (265 : Nat) (1431655765 : Int32) ∈ wsA := List.mem_filter.mpr ⟨wt_3 (List.mem_of_getElem? (i := 80) rfl), rfl⟩
theorem wq3_81 : Jvm.Cond.constant "java/lang/Integer" (266 : Nat) (858993459 : Int32) ∈ wsA := List.mem_filter.mpr ⟨wt_3 (List.mem_of_getElem? (i := 81) rfl), rfl⟩
theorem wq3_82 : Jvm.Cond.constant "java/lang/Integer" (267 : Nat) (252645135 : Int32) ∈ wsA := List.mem_filter.mpr ⟨wt_3 (List.mem_of_getElem? (i := 82) rfl), rfl⟩
theorem wq3_83 : Jvm.Cond.methodLink "NoticeBoxes" (275 : Nat) ({ cls := "java/lang/Integer", name := "bitCount", desc := "(I)I" } : Jvm.MethodName) ∈ wsA := List.mem_filter.mpr ⟨wt_3 (List.mem_of_getElem? (i := 83) rfl), rfl⟩
theorem wq3_84 : Jvm.Cond.methodLink "NoticeBoxesLaw" (74 : Nat) ({ cls := "NoticeBoxes", name := "leave", desc := "(I)I" } : Jvm.MethodName) ∈ wsA := List.mem_filter.mpr ⟨wt_3 (List.mem_of_getElem? (i := 84) rfl), rfl⟩
theorem wq3_85 : Jvm.Cond.instanceMethod ({ cls := "NoticeBoxes", name := "leave", desc := "(I)I" } : Jvm.MethodName) ∈ wsA := List.mem_filter.mpr ⟨wt_3 (List.mem_of_getElem? (i := 85) rfl), rfl⟩
theorem wq3_86 : Jvm.Cond.selects "NoticeBoxes" ({ cls := "NoticeBoxes", name := "leave", desc := "(I)I" } : Jvm.MethodName) ({ cls := "NoticeBoxes", name := "leave", desc := "(I)I" } : Jvm.MethodName) ∈ wsA := List.mem_filter.mpr ⟨wt_3 (List.mem_of_getElem? (i := 86) rfl), rfl⟩
theorem wq3_87 : Jvm.Cond.code ({ cls := "NoticeBoxes", name := "leave", desc := "(I)I" } : Jvm.MethodName) prog_1_method_16_code (3 : Nat) (Option.some Jvm.ClassFile.FieldType.int) ∈ wsA := List.mem_filter.mpr ⟨wt_3 (List.mem_of_getElem? (i := 87) rfl), rfl⟩
theorem wq3_88 : Jvm.Cond.constant "NoticeBoxes" (240 : Nat) (-1000000003 : Int32) ∈ wsA := List.mem_filter.mpr ⟨wt_3 (List.mem_of_getElem? (i := 88) rfl), rfl⟩
theorem wq3_89 : Jvm.Cond.methodLink "NoticeBoxesLaw" (78 : Nat) ({ cls := "NoticeBoxes", name := "come", desc := "(II)I" } : Jvm.MethodName) ∈ wsA := List.mem_filter.mpr ⟨wt_3 (List.mem_of_getElem? (i := 89) rfl), rfl⟩
theorem wq3_90 : Jvm.Cond.instanceMethod ({ cls := "NoticeBoxes", name := "come", desc := "(II)I" } : Jvm.MethodName) ∈ wsA := List.mem_filter.mpr ⟨wt_3 (List.mem_of_getElem? (i := 90) rfl), rfl⟩
theorem wq3_91 : Jvm.Cond.selects "NoticeBoxes" ({ cls := "NoticeBoxes", name := "come", desc := "(II)I" } : Jvm.MethodName) ({ cls := "NoticeBoxes", name := "come", desc := "(II)I" } : Jvm.MethodName) ∈ wsA := List.mem_filter.mpr ⟨wt_3 (List.mem_of_getElem? (i := 91) rfl), rfl⟩
theorem wq3_92 : Jvm.Cond.code ({ cls := "NoticeBoxes", name := "come", desc := "(II)I" } : Jvm.MethodName) prog_1_method_17_code (4 : Nat) (Option.some Jvm.ClassFile.FieldType.int) ∈ wsA := List.mem_filter.mpr ⟨wt_3 (List.mem_of_getElem? (i := 92) rfl), rfl⟩
theorem wq3_93 : Jvm.Cond.methodLink "NoticeBoxes" (241 : Nat) ({ cls := "NoticeBoxes$Client", name := "arrive", desc := "(I)I" } : Jvm.MethodName) ∈ wsA := List.mem_filter.mpr ⟨wt_3 (List.mem_of_getElem? (i := 93) rfl), rfl⟩
theorem wq3_94 : Jvm.Cond.instanceMethod ({ cls := "NoticeBoxes$Client", name := "arrive", desc := "(I)I" } : Jvm.MethodName) ∈ wsA := List.mem_filter.mpr ⟨wt_3 (List.mem_of_getElem? (i := 94) rfl), rfl⟩
theorem wq3_95 : Jvm.Cond.selects "NoticeBoxes$Client" ({ cls := "NoticeBoxes$Client", name := "arrive", desc := "(I)I" } : Jvm.MethodName) ({ cls := "NoticeBoxes$Client", name := "arrive", desc := "(I)I" } : Jvm.MethodName) ∈ wsA := List.mem_filter.mpr ⟨wt_3 (List.mem_of_getElem? (i := 95) rfl), rfl⟩
theorem wq3_96 : Jvm.Cond.code ({ cls := "NoticeBoxes$Client", name := "arrive", desc := "(I)I" } : Jvm.MethodName) prog_5_method_6_code (4 : Nat) (Option.some Jvm.ClassFile.FieldType.int) ∈ wsA := List.mem_filter.mpr ⟨wt_3 (List.mem_of_getElem? (i := 96) rfl), rfl⟩
theorem wq3_97 : Jvm.Cond.methodLink "NoticeBoxesLaw" (82 : Nat) ({ cls := "NoticeBoxes", name := "part", desc := "()I" } : Jvm.MethodName) ∈ wsA := List.mem_filter.mpr ⟨wt_3 (List.mem_of_getElem? (i := 97) rfl), rfl⟩
theorem wq3_98 : Jvm.Cond.instanceMethod ({ cls := "NoticeBoxes", name := "part", desc := "()I" } : Jvm.MethodName) ∈ wsA := List.mem_filter.mpr ⟨wt_3 (List.mem_of_getElem? (i := 98) rfl), rfl⟩
theorem wq3_99 : Jvm.Cond.selects "NoticeBoxes" ({ cls := "NoticeBoxes", name := "part", desc := "()I" } : Jvm.MethodName) ({ cls := "NoticeBoxes", name := "part", desc := "()I" } : Jvm.MethodName) ∈ wsA := List.mem_filter.mpr ⟨wt_3 (List.mem_of_getElem? (i := 99) rfl), rfl⟩
theorem wq3_100 : Jvm.Cond.code ({ cls := "NoticeBoxes", name := "part", desc := "()I" } : Jvm.MethodName) prog_1_method_18_code (1 : Nat) (Option.some Jvm.ClassFile.FieldType.int) ∈ wsA := List.mem_filter.mpr ⟨wt_3 (List.mem_of_getElem? (i := 100) rfl), rfl⟩
theorem wq3_101 : Jvm.Cond.methodLink "NoticeBoxes" (244 : Nat) ({ cls := "NoticeBoxes$State", name := "removeLatestClient", desc := "()V" } : Jvm.MethodName) ∈ wsA := List.mem_filter.mpr ⟨wt_3 (List.mem_of_getElem? (i := 101) rfl), rfl⟩
theorem wq3_102 : Jvm.Cond.instanceMethod ({ cls := "NoticeBoxes$State", name := "removeLatestClient", desc := "()V" } : Jvm.MethodName) ∈ wsA := List.mem_filter.mpr ⟨wt_3 (List.mem_of_getElem? (i := 102) rfl), rfl⟩
theorem wq3_103 : Jvm.Cond.selects "NoticeBoxes$State" ({ cls := "NoticeBoxes$State", name := "removeLatestClient", desc := "()V" } : Jvm.MethodName) ({ cls := "NoticeBoxes$State", name := "removeLatestClient", desc := "()V" } : Jvm.MethodName) ∈ wsA := List.mem_filter.mpr ⟨wt_3 (List.mem_of_getElem? (i := 103) rfl), rfl⟩
theorem wq3_104 : Jvm.Cond.code ({ cls := "NoticeBoxes$State", name := "removeLatestClient", desc := "()V" } : Jvm.MethodName) prog_10_method_17_code (2 : Nat) (Option.none : Option Jvm.ClassFile.FieldType) ∈ wsA := List.mem_filter.mpr ⟨wt_3 (List.mem_of_getElem? (i := 104) rfl), rfl⟩
theorem wq3_105 : Jvm.Cond.methodLink "NoticeBoxes$State" (87 : Nat) ({ cls := "NoticeBoxes$State", name := "removeWish", desc := "(I)V" } : Jvm.MethodName) ∈ wsA := List.mem_filter.mpr ⟨wt_3 (List.mem_of_getElem? (i := 105) rfl), rfl⟩
theorem wq3_106 : Jvm.Cond.methodLink "NoticeBoxesLaw" (87 : Nat) ({ cls := "NoticeBoxes", name := "drift", desc := "(I)I" } : Jvm.MethodName) ∈ wsA := List.mem_filter.mpr ⟨wt_3 (List.mem_of_getElem? (i := 106) rfl), rfl⟩
theorem wq3_107 : Jvm.Cond.instanceMethod ({ cls := "NoticeBoxes", name := "drift", desc := "(I)I" } : Jvm.MethodName) ∈ wsA := List.mem_filter.mpr ⟨wt_3 (List.mem_of_getElem? (i := 107) rfl), rfl⟩
theorem wq3_108 : Jvm.Cond.selects "NoticeBoxes" ({ cls := "NoticeBoxes", name := "drift", desc := "(I)I" } : Jvm.MethodName) ({ cls := "NoticeBoxes", name := "drift", desc := "(I)I" } : Jvm.MethodName) ∈ wsA := List.mem_filter.mpr ⟨wt_3 (List.mem_of_getElem? (i := 108) rfl), rfl⟩
theorem wq3_109 : Jvm.Cond.code ({ cls := "NoticeBoxes", name := "drift", desc := "(I)I" } : Jvm.MethodName) prog_1_method_19_code (7 : Nat) (Option.some Jvm.ClassFile.FieldType.int) ∈ wsA := List.mem_filter.mpr ⟨wt_3 (List.mem_of_getElem? (i := 109) rfl), rfl⟩
theorem wq3_110 : Jvm.Cond.methodLink "NoticeBoxes" (247 : Nat) ({ cls := "NoticeBoxes$Draws", name := "draw", desc := "(I)I" } : Jvm.MethodName) ∈ wsA := List.mem_filter.mpr ⟨wt_3 (List.mem_of_getElem? (i := 110) rfl), rfl⟩
theorem wq3_111 : Jvm.Cond.instanceMethod ({ cls := "NoticeBoxes$Draws", name := "draw", desc := "(I)I" } : Jvm.MethodName) ∈ wsA := List.mem_filter.mpr ⟨wt_3 (List.mem_of_getElem? (i := 111) rfl), rfl⟩
theorem wq3_112 : Jvm.Cond.selects "NoticeBoxes$Draws" ({ cls := "NoticeBoxes$Draws", name := "draw", desc := "(I)I" } : Jvm.MethodName) ({ cls := "NoticeBoxes$Draws", name := "draw", desc := "(I)I" } : Jvm.MethodName) ∈ wsA := List.mem_filter.mpr ⟨wt_3 (List.mem_of_getElem? (i := 112) rfl), rfl⟩
theorem wq3_113 : Jvm.Cond.code ({ cls := "NoticeBoxes$Draws", name := "draw", desc := "(I)I" } : Jvm.MethodName) prog_6_method_2_code (2 : Nat) (Option.some Jvm.ClassFile.FieldType.int) ∈ wsA := List.mem_filter.mpr ⟨wt_3 (List.mem_of_getElem? (i := 113) rfl), rfl⟩
theorem wq3_114 : Jvm.Cond.constant "NoticeBoxes$Draws" (13 : Nat) (1103515245 : Int32) ∈ wsA := List.mem_filter.mpr ⟨wt_3 (List.mem_of_getElem? (i := 114) rfl), rfl⟩
theorem wq3_115 : Jvm.Cond.constant "NoticeBoxes$Draws" (16 : Nat) (2147483647 : Int32) ∈ wsA := List.mem_filter.mpr ⟨wt_3 (List.mem_of_getElem? (i := 115) rfl), rfl⟩
theorem wq3_116 : Jvm.Cond.constant "NoticeBoxes$Draws" (17 : Nat) (65536 : Int32) ∈ wsA := List.mem_filter.mpr ⟨wt_3 (List.mem_of_getElem? (i := 116) rfl), rfl⟩
theorem wq3_117 : Jvm.Cond.methodLink "NoticeBoxesLaw" (91 : Nat) ({ cls := "NoticeBoxes", name := "undo", desc := "(I)I" } : Jvm.MethodName) ∈ wsA := List.mem_filter.mpr ⟨wt_3 (List.mem_of_getElem? (i := 117) rfl), rfl⟩
theorem wq3_118 : Jvm.Cond.instanceMethod ({ cls := "NoticeBoxes", name := "undo", desc := "(I)I" } : Jvm.MethodName) ∈ wsA := List.mem_filter.mpr ⟨wt_3 (List.mem_of_getElem? (i := 118) rfl), rfl⟩
theorem wq3_119 : Jvm.Cond.selects "NoticeBoxes" ({ cls := "NoticeBoxes", name := "undo", desc := "(I)I" } : Jvm.MethodName) ({ cls := "NoticeBoxes", name := "undo", desc := "(I)I" } : Jvm.MethodName) ∈ wsA := List.mem_filter.mpr ⟨wt_3 (List.mem_of_getElem? (i := 119) rfl), rfl⟩
theorem wq3_120 : Jvm.Cond.code ({ cls := "NoticeBoxes", name := "undo", desc := "(I)I" } : Jvm.MethodName) prog_1_method_20_code (2 : Nat) (Option.some Jvm.ClassFile.FieldType.int) ∈ wsA := List.mem_filter.mpr ⟨wt_3 (List.mem_of_getElem? (i := 120) rfl), rfl⟩
theorem wq3_121 : Jvm.Cond.methodLink "NoticeBoxes" (250 : Nat) ({ cls := "NoticeBoxes$Past", name := "restore", desc := "(LNoticeBoxes$State;I)V" } : Jvm.MethodName) ∈ wsA := List.mem_filter.mpr ⟨wt_3 (List.mem_of_getElem? (i := 121) rfl), rfl⟩
theorem wq3_122 : Jvm.Cond.instanceMethod ({ cls := "NoticeBoxes$Past", name := "restore", desc := "(LNoticeBoxes$State;I)V" } : Jvm.MethodName) ∈ wsA := List.mem_filter.mpr ⟨wt_3 (List.mem_of_getElem? (i := 122) rfl), rfl⟩
theorem wq3_123 : Jvm.Cond.selects "NoticeBoxes$Past" ({ cls := "NoticeBoxes$Past", name := "restore", desc := "(LNoticeBoxes$State;I)V" } : Jvm.MethodName) ({ cls := "NoticeBoxes$Past", name := "restore", desc := "(LNoticeBoxes$State;I)V" } : Jvm.MethodName) ∈ wsA := List.mem_filter.mpr ⟨wt_3 (List.mem_of_getElem? (i := 123) rfl), rfl⟩
theorem wq3_124 : Jvm.Cond.code ({ cls := "NoticeBoxes$Past", name := "restore", desc := "(LNoticeBoxes$State;I)V" } : Jvm.MethodName) prog_9_method_3_code (3 : Nat) (Option.none : Option Jvm.ClassFile.FieldType) ∈ wsA := List.mem_filter.mpr ⟨wt_3 (List.mem_of_getElem? (i := 124) rfl), rfl⟩
theorem wq3_125 : Jvm.Cond.methodLink "NoticeBoxesLaw" (95 : Nat) ({ cls := "NoticeBoxes", name := "write", desc := "(II)I" } : Jvm.MethodName) ∈ wsA := List.mem_filter.mpr ⟨wt_3 (List.mem_of_getElem? (i := 125) rfl), rfl⟩
theorem wq3_126 : Jvm.Cond.instanceMethod ({ cls := "NoticeBoxes", name := "write", desc := "(II)I" } : Jvm.MethodName) ∈ wsA := List.mem_filter.mpr ⟨wt_3 (List.mem_of_getElem? (i := 126) rfl), rfl⟩
theorem wq3_127 : Jvm.Cond.selects "NoticeBoxes" ({ cls := "NoticeBoxes", name := "write", desc := "(II)I" } : Jvm.MethodName) ({ cls := "NoticeBoxes", name := "write", desc := "(II)I" } : Jvm.MethodName) ∈ wsA := List.mem_filter.mpr ⟨wt_3 (List.mem_of_getElem? (i := 127) rfl), rfl⟩
theorem wq3_128 : Jvm.Cond.code ({ cls := "NoticeBoxes", name := "write", desc := "(II)I" } : Jvm.MethodName) prog_1_method_21_code (3 : Nat) (Option.some Jvm.ClassFile.FieldType.int) ∈ wsA := List.mem_filter.mpr ⟨wt_3 (List.mem_of_getElem? (i := 128) rfl), rfl⟩
theorem wq3_129 : Jvm.Cond.methodLink "NoticeBoxes" (254 : Nat) ({ cls := "NoticeBoxes$Book", name := "add", desc := "(II)V" } : Jvm.MethodName) ∈ wsA := List.mem_filter.mpr ⟨wt_3 (List.mem_of_getElem? (i := 129) rfl), rfl⟩
theorem wq3_130 : Jvm.Cond.instanceMethod ({ cls := "NoticeBoxes$Book", name := "add", desc := "(II)V" } : Jvm.MethodName) ∈ wsA := List.mem_filter.mpr ⟨wt_3 (List.mem_of_getElem? (i := 130) rfl), rfl⟩
theorem wq3_131 : Jvm.Cond.selects "NoticeBoxes$Book" ({ cls := "NoticeBoxes$Book", name := "add", desc := "(II)V" } : Jvm.MethodName) ({ cls := "NoticeBoxes$Book", name := "add", desc := "(II)V" } : Jvm.MethodName) ∈ wsA := List.mem_filter.mpr ⟨wt_3 (List.mem_of_getElem? (i := 131) rfl), rfl⟩
theorem wq3_132 : Jvm.Cond.code ({ cls := "NoticeBoxes$Book", name := "add", desc := "(II)V" } : Jvm.MethodName) prog_2_method_2_code (3 : Nat) (Option.none : Option Jvm.ClassFile.FieldType) ∈ wsA := List.mem_filter.mpr ⟨wt_3 (List.mem_of_getElem? (i := 132) rfl), rfl⟩
theorem wq3_133 : Jvm.Cond.methodLink "NoticeBoxesLaw" (99 : Nat) ({ cls := "NoticeBoxes", name := "tear", desc := "()I" } : Jvm.MethodName) ∈ wsA := List.mem_filter.mpr ⟨wt_3 (List.mem_of_getElem? (i := 133) rfl), rfl⟩
theorem wq3_134 : Jvm.Cond.instanceMethod ({ cls := "NoticeBoxes", name := "tear", desc := "()I" } : Jvm.MethodName) ∈ wsA := List.mem_filter.mpr ⟨wt_3 (List.mem_of_getElem? (i := 134) rfl), rfl⟩
theorem wq3_135 : Jvm.Cond.selects "NoticeBoxes" ({ cls := "NoticeBoxes", name := "tear", desc := "()I" } : Jvm.MethodName) ({ cls := "NoticeBoxes", name := "tear", desc := "()I" } : Jvm.MethodName) ∈ wsA := List.mem_filter.mpr ⟨wt_3 (List.mem_of_getElem? (i := 135) rfl), rfl⟩
theorem wq3_136 : Jvm.Cond.code ({ cls := "NoticeBoxes", name := "tear", desc := "()I" } : Jvm.MethodName) prog_1_method_22_code (2 : Nat) (Option.some Jvm.ClassFile.FieldType.int) ∈ wsA := List.mem_filter.mpr ⟨wt_3 (List.mem_of_getElem? (i := 136) rfl), rfl⟩
theorem wq3_137 : Jvm.Cond.methodLink "NoticeBoxesLaw" (103 : Nat) ({ cls := "NoticeBoxes", name := "seed", desc := "(I)I" } : Jvm.MethodName) ∈ wsA := List.mem_filter.mpr ⟨wt_3 (List.mem_of_getElem? (i := 137) rfl), rfl⟩
theorem wq3_138 : Jvm.Cond.instanceMethod ({ cls := "NoticeBoxes", name := "seed", desc := "(I)I" } : Jvm.MethodName) ∈ wsA := List.mem_filter.mpr ⟨wt_3 (List.mem_of_getElem? (i := 138) rfl), rfl⟩
theorem wq3_139 : Jvm.Cond.selects "NoticeBoxes" ({ cls := "NoticeBoxes", name := "seed", desc := "(I)I" } : Jvm.MethodName) ({ cls := "NoticeBoxes", name := "seed", desc := "(I)I" } : Jvm.MethodName) ∈ wsA := List.mem_filter.mpr ⟨wt_3 (List.mem_of_getElem? (i := 139) rfl), rfl⟩
theorem wq3_140 : Jvm.Cond.code ({ cls := "NoticeBoxes", name := "seed", desc := "(I)I" } : Jvm.MethodName) prog_1_method_23_code (3 : Nat) (Option.some Jvm.ClassFile.FieldType.int) ∈ wsA := List.mem_filter.mpr ⟨wt_3 (List.mem_of_getElem? (i := 140) rfl), rfl⟩
theorem wq3_141 : Jvm.Cond.methodLink "NoticeBoxesLaw" (107 : Nat) ({ cls := "NoticeBoxes", name := "keep", desc := "(I)I" } : Jvm.MethodName) ∈ wsA := List.mem_filter.mpr ⟨wt_3 (List.mem_of_getElem? (i := 141) rfl), rfl⟩
theorem wq3_142 : Jvm.Cond.instanceMethod ({ cls := "NoticeBoxes", name := "keep", desc := "(I)I" } : Jvm.MethodName) ∈ wsA := List.mem_filter.mpr ⟨wt_3 (List.mem_of_getElem? (i := 142) rfl), rfl⟩
theorem wq3_143 : Jvm.Cond.selects "NoticeBoxes" ({ cls := "NoticeBoxes", name := "keep", desc := "(I)I" } : Jvm.MethodName) ({ cls := "NoticeBoxes", name := "keep", desc := "(I)I" } : Jvm.MethodName) ∈ wsA := List.mem_filter.mpr ⟨wt_3 (List.mem_of_getElem? (i := 143) rfl), rfl⟩
theorem wq3_144 : Jvm.Cond.code ({ cls := "NoticeBoxes", name := "keep", desc := "(I)I" } : Jvm.MethodName) prog_1_method_24_code (2 : Nat) (Option.some Jvm.ClassFile.FieldType.int) ∈ wsA := List.mem_filter.mpr ⟨wt_3 (List.mem_of_getElem? (i := 144) rfl), rfl⟩
theorem wq3_145 : Jvm.Cond.methodLink "NoticeBoxes" (258 : Nat) ({ cls := "NoticeBoxes$Image", name := "take", desc := "(LNoticeBoxes$State;LNoticeBoxes$Draws;)V" } : Jvm.MethodName) ∈ wsA := List.mem_filter.mpr ⟨wt_3 (List.mem_of_getElem? (i := 145) rfl), rfl⟩
theorem wq3_146 : Jvm.Cond.instanceMethod ({ cls := "NoticeBoxes$Image", name := "take", desc := "(LNoticeBoxes$State;LNoticeBoxes$Draws;)V" } : Jvm.MethodName) ∈ wsA := List.mem_filter.mpr ⟨wt_3 (List.mem_of_getElem? (i := 146) rfl), rfl⟩
theorem wq3_147 : Jvm.Cond.selects "NoticeBoxes$Image" ({ cls := "NoticeBoxes$Image", name := "take", desc := "(LNoticeBoxes$State;LNoticeBoxes$Draws;)V" } : Jvm.MethodName) ({ cls := "NoticeBoxes$Image", name := "take", desc := "(LNoticeBoxes$State;LNoticeBoxes$Draws;)V" } : Jvm.MethodName) ∈ wsA := List.mem_filter.mpr ⟨wt_3 (List.mem_of_getElem? (i := 147) rfl), rfl⟩
theorem wq3_148 : Jvm.Cond.code ({ cls := "NoticeBoxes$Image", name := "take", desc := "(LNoticeBoxes$State;LNoticeBoxes$Draws;)V" } : Jvm.MethodName) prog_7_method_2_code (3 : Nat) (Option.none : Option Jvm.ClassFile.FieldType) ∈ wsA := List.mem_filter.mpr ⟨wt_3 (List.mem_of_getElem? (i := 148) rfl), rfl⟩
theorem wq3_149 : Jvm.Cond.methodLink "NoticeBoxes$Image" (16 : Nat) ({ cls := "NoticeBoxes$State", name := "copyFrom", desc := "(LNoticeBoxes$State;)V" } : Jvm.MethodName) ∈ wsA := List.mem_filter.mpr ⟨wt_3 (List.mem_of_getElem? (i := 149) rfl), rfl⟩
theorem wq3_150 : Jvm.Cond.methodLink "NoticeBoxes" (262 : Nat) ({ cls := "NoticeBoxes$Past", name := "forget", desc := "()V" } : Jvm.MethodName) ∈ wsA := List.mem_filter.mpr ⟨wt_3 (List.mem_of_getElem? (i := 150) rfl), rfl⟩
theorem wq3_151 : Jvm.Cond.instanceMethod ({ cls := "NoticeBoxes$Past", name := "forget", desc := "()V" } : Jvm.MethodName) ∈ wsA := List.mem_filter.mpr ⟨wt_3 (List.mem_of_getElem? (i := 151) rfl), rfl⟩
theorem wq3_152 : Jvm.Cond.selects "NoticeBoxes$Past" ({ cls := "NoticeBoxes$Past", name := "forget", desc := "()V" } : Jvm.MethodName) ({ cls := "NoticeBoxes$Past", name := "forget", desc := "()V" } : Jvm.MethodName) ∈ wsA := List.mem_filter.mpr ⟨wt_3 (List.mem_of_getElem? (i := 152) rfl), rfl⟩
theorem wq3_153 : Jvm.Cond.code ({ cls := "NoticeBoxes$Past", name := "forget", desc := "()V" } : Jvm.MethodName) prog_9_method_4_code (1 : Nat) (Option.none : Option Jvm.ClassFile.FieldType) ∈ wsA := List.mem_filter.mpr ⟨wt_3 (List.mem_of_getElem? (i := 153) rfl), rfl⟩
theorem wq3_154 : Jvm.Cond.methodLink "NoticeBoxesLaw" (111 : Nat) ({ cls := "NoticeBoxes", name := "goBack", desc := "(I)I" } : Jvm.MethodName) ∈ wsA := List.mem_filter.mpr ⟨wt_3 (List.mem_of_getElem? (i := 154) rfl), rfl⟩
theorem wq3_155 : Jvm.Cond.instanceMethod ({ cls := "NoticeBoxes", name := "goBack", desc := "(I)I" } : Jvm.MethodName) ∈ wsA := List.mem_filter.mpr ⟨wt_3 (List.mem_of_getElem? (i := 155) rfl), rfl⟩
theorem wq3_156 : Jvm.Cond.selects "NoticeBoxes" ({ cls := "NoticeBoxes", name := "goBack", desc := "(I)I" } : Jvm.MethodName) ({ cls := "NoticeBoxes", name := "goBack", desc := "(I)I" } : Jvm.MethodName) ∈ wsA := List.mem_filter.mpr ⟨wt_3 (List.mem_of_getElem? (i := 156) rfl), rfl⟩
theorem wq3_157 : Jvm.Cond.code ({ cls := "NoticeBoxes", name := "goBack", desc := "(I)I" } : Jvm.MethodName) prog_1_method_25_code (2 : Nat) (Option.some Jvm.ClassFile.FieldType.int) ∈ wsA := List.mem_filter.mpr ⟨wt_3 (List.mem_of_getElem? (i := 157) rfl), rfl⟩
theorem wq3_158 : Jvm.Cond.methodLink "NoticeBoxes" (268 : Nat) ({ cls := "NoticeBoxes$Image", name := "giveBack", desc := "(LNoticeBoxes$State;LNoticeBoxes$Draws;)V" } : Jvm.MethodName) ∈ wsA := List.mem_filter.mpr ⟨wt_3 (List.mem_of_getElem? (i := 158) rfl), rfl⟩
theorem wq3_159 : Jvm.Cond.instanceMethod ({ cls := "NoticeBoxes$Image", name := "giveBack", desc := "(LNoticeBoxes$State;LNoticeBoxes$Draws;)V" } : Jvm.MethodName) ∈ wsA := List.mem_filter.mpr ⟨wt_3 (List.mem_of_getElem? (i := 159) rfl), rfl⟩
theorem wq3_160 : Jvm.Cond.selects "NoticeBoxes$Image" ({ cls := "NoticeBoxes$Image", name := "giveBack", desc := "(LNoticeBoxes$State;LNoticeBoxes$Draws;)V" } : Jvm.MethodName) ({ cls := "NoticeBoxes$Image", name := "giveBack", desc := "(LNoticeBoxes$State;LNoticeBoxes$Draws;)V" } : Jvm.MethodName) ∈ wsA := List.mem_filter.mpr ⟨wt_3 (List.mem_of_getElem? (i := 160) rfl), rfl⟩
theorem wq3_161 : Jvm.Cond.code ({ cls := "NoticeBoxes$Image", name := "giveBack", desc := "(LNoticeBoxes$State;LNoticeBoxes$Draws;)V" } : Jvm.MethodName) prog_7_method_3_code (3 : Nat) (Option.none : Option Jvm.ClassFile.FieldType) ∈ wsA := List.mem_filter.mpr ⟨wt_3 (List.mem_of_getElem? (i := 161) rfl), rfl⟩
theorem wq3_162 : Jvm.Cond.classLink "NoticeBoxesLaw" (10 : Nat) "NoticeBoxesModel" ∈ wsA := List.mem_filter.mpr ⟨wt_3 (List.mem_of_getElem? (i := 162) rfl), rfl⟩
theorem wq3_163 : Jvm.Cond.instantiable "NoticeBoxesModel" (19 : Nat) ∈ wsA := List.mem_filter.mpr ⟨wt_3 (List.mem_of_getElem? (i := 163) rfl), rfl⟩
theorem wq3_164 : Jvm.Cond.methodLink "NoticeBoxesLaw" (12 : Nat) ({ cls := "NoticeBoxesModel", name := "<init>", desc := "()V" } : Jvm.MethodName) ∈ wsA := List.mem_filter.mpr ⟨wt_3 (List.mem_of_getElem? (i := 164) rfl), rfl⟩
theorem wq3_165 : Jvm.Cond.instanceMethod ({ cls := "NoticeBoxesModel", name := "<init>", desc := "()V" } : Jvm.MethodName) ∈ wsA := List.mem_filter.mpr ⟨wt_3 (List.mem_of_getElem? (i := 165) rfl), rfl⟩
theorem wq3_166 : Jvm.Cond.code ({ cls := "NoticeBoxesModel", name := "<init>", desc := "()V" } : Jvm.MethodName) prog_13_method_1_code (1 : Nat) (Option.none : Option Jvm.ClassFile.FieldType) ∈ wsA := List.mem_filter.mpr ⟨wt_3 (List.mem_of_getElem? (i := 166) rfl), rfl⟩
theorem wq3_167 : Jvm.Cond.methodLink "NoticeBoxesModel" (1 : Nat) ({ cls := "java/lang/Object", name := "<init>", desc := "()V" } : Jvm.MethodName) ∈ wsA := List.mem_filter.mpr ⟨wt_3 (List.mem_of_getElem? (i := 167) rfl), rfl⟩
theorem wq3_168 : Jvm.Cond.fieldLink "NoticeBoxesModel" (7 : Nat) "NoticeBoxesModel" "s" "[I" ∈ wsA := List.mem_filter.mpr ⟨wt_3 (List.mem_of_getElem? (i := 168) rfl), rfl⟩
theorem wq3_169 : Jvm.Cond.fieldLink "NoticeBoxesModel" (176 : Nat) "NoticeBoxesModel" "seed" "I" ∈ wsA := List.mem_filter.mpr ⟨wt_3 (List.mem_of_getElem? (i := 169) rfl), rfl⟩
theorem wq3_170 : Jvm.Cond.fieldLink "NoticeBoxesModel" (13 : Nat) "NoticeBoxesModel" "past" "[I" ∈ wsA := List.mem_filter.mpr ⟨wt_3 (List.mem_of_getElem? (i := 170) rfl), rfl⟩
theorem wq3_171 : Jvm.Cond.fieldLink "NoticeBoxesModel" (173 : Nat) "NoticeBoxesModel" "known" "I" ∈ wsA := List.mem_filter.mpr ⟨wt_3 (List.mem_of_getElem? (i := 171) rfl), rfl⟩
theorem wq3_172 : Jvm.Cond.fieldLink "NoticeBoxesModel" (16 : Nat) "NoticeBoxesModel" "images" "[I" ∈ wsA := List.mem_filter.mpr ⟨wt_3 (List.mem_of_getElem? (i := 172) rfl), rfl⟩
theorem wq3_173 : Jvm.Cond.fieldLink "NoticeBoxesModel" (19 : Nat) "NoticeBoxesModel" "isKept" "[Z" ∈ wsA := List.mem_filter.mpr ⟨wt_3 (List.mem_of_getElem? (i := 173) rfl), rfl⟩
theorem wq3_174 : Jvm.Cond.fieldLink "NoticeBoxesModel" (23 : Nat) "NoticeBoxesModel" "bookClient" "[I" ∈ wsA := List.mem_filter.mpr ⟨wt_3 (List.mem_of_getElem? (i := 174) rfl), rfl⟩
theorem wq3_175 : Jvm.Cond.fieldLink "NoticeBoxesModel" (26 : Nat) "NoticeBoxesModel" "bookHad" "[I" ∈ wsA := List.mem_filter.mpr ⟨wt_3 (List.mem_of_getElem? (i := 175) rfl), rfl⟩
theorem wq3_176 : Jvm.Cond.fieldLink "NoticeBoxesModel" (160 : Nat) "NoticeBoxesModel" "written" "I" ∈ wsA := List.mem_filter.mpr ⟨wt_3 (List.mem_of_getElem? (i := 176) rfl), rfl⟩
theorem wq3_177 : Jvm.Cond.fieldLink "NoticeBoxesModel" (29 : Nat) "NoticeBoxesModel" "many" "[I" ∈ wsA := List.mem_filter.mpr ⟨wt_3 (List.mem_of_getElem? (i := 177) rfl), rfl⟩
theorem wq3_178 : Jvm.Cond.fieldLink "NoticeBoxesModel" (32 : Nat) "NoticeBoxesModel" "told" "[I" ∈ wsA := List.mem_filter.mpr ⟨wt_3 (List.mem_of_getElem? (i := 178) rfl), rfl⟩
theorem wq3_179 : Jvm.Cond.fieldLink "NoticeBoxesModel" (109 : Nat) "NoticeBoxesModel" "isLaid" "Z" ∈ wsA := List.mem_filter.mpr ⟨wt_3 (List.mem_of_getElem? (i := 179) rfl), rfl⟩
theorem wq3_180 : Jvm.Cond.fieldLink "NoticeBoxesModel" (35 : Nat) "NoticeBoxesModel" "box" "[I" ∈ wsA := List.mem_filter.mpr ⟨wt_3 (List.mem_of_getElem? (i := 180) rfl), rfl⟩
theorem wq3_181 : Jvm.Cond.fieldLink "NoticeBoxesModel" (56 : Nat) "NoticeBoxesModel" "boxes" "I" ∈ wsA := List.mem_filter.mpr ⟨wt_3 (List.mem_of_getElem? (i := 181) rfl), rfl⟩
theorem wq3_182 : Jvm.Cond.fieldLink "NoticeBoxesModel" (38 : Nat) "NoticeBoxesModel" "joined" "[I" ∈ wsA := List.mem_filter.mpr ⟨wt_3 (List.mem_of_getElem? (i := 182) rfl), rfl⟩
theorem wq3_183 : Jvm.Cond.fieldLink "NoticeBoxesModel" (123 : Nat) "NoticeBoxesModel" "places" "I" ∈ wsA := List.mem_filter.mpr ⟨wt_3 (List.mem_of_getElem? (i := 183) rfl), rfl⟩
theorem wq3_184 : Jvm.Cond.fieldLink "NoticeBoxesModel" (133 : Nat) "NoticeBoxesModel" "gets" "I" ∈ wsA := List.mem_filter.mpr ⟨wt_3 (List.mem_of_getElem? (i := 184) rfl), rfl⟩
theorem wq3_185 : Jvm.Cond.fieldLink "NoticeBoxesModel" (140 : Nat) "NoticeBoxesModel" "vain" "I" ∈ wsA := List.mem_filter.mpr ⟨wt_3 (List.mem_of_getElem? (i := 185) rfl), rfl⟩
theorem wq3_186 : Jvm.Cond.fieldLink "NoticeBoxesModel" (126 : Nat) "NoticeBoxesModel" "links" "I" ∈ wsA := List.mem_filter.mpr ⟨wt_3 (List.mem_of_getElem? (i := 186) rfl), rfl⟩
theorem wq3_187 : Jvm.Cond.laysFinal "NoticeBoxesModel" "NoticeBoxesModel" "s" "[I" ∈ wsA := List.mem_filter.mpr ⟨wt_3 (List.mem_of_getElem? (i := 187) rfl), rfl⟩
theorem wq3_188 : Jvm.Cond.soleField "NoticeBoxesModel" "s" ∈ lw_tbl := wt_3 (List.mem_of_getElem? (i := 188) rfl)
theorem wq3_189 : Jvm.Cond.lays "NoticeBoxesModel" "NoticeBoxesModel" "seed" "I" ∈ wsA := List.mem_filter.mpr ⟨wt_3 (List.mem_of_getElem? (i := 189) rfl), rfl⟩
theorem wq3_190 : Jvm.Cond.soleField "NoticeBoxesModel" "seed" ∈ lw_tbl := wt_3 (List.mem_of_getElem? (i := 190) rfl)
theorem wq3_191 : Jvm.Cond.laysFinal "NoticeBoxesModel" "NoticeBoxesModel" "past" "[I" ∈ wsA := List.mem_filter.mpr ⟨wt_3 (List.mem_of_getElem? (i := 191) rfl), rfl⟩
theorem wq3_192 : Jvm.Cond.soleField "NoticeBoxesModel" "past" ∈ lw_tbl := wt_3 (List.mem_of_getElem? (i := 192) rfl)
theorem wq3_193 : Jvm.Cond.lays "NoticeBoxesModel" "NoticeBoxesModel" "known" "I" ∈ wsA := List.mem_filter.mpr ⟨wt_3 (List.mem_of_getElem? (i := 193) rfl), rfl⟩
theorem wq3_194 : Jvm.Cond.soleField "NoticeBoxesModel" "known" ∈ lw_tbl := wt_3 (List.mem_of_getElem? (i := 194) rfl)
theorem wq3_195 : Jvm.Cond.laysFinal "NoticeBoxesModel" "NoticeBoxesModel" "images" "[I" ∈ wsA := List.mem_filter.mpr ⟨wt_3 (List.mem_of_getElem? (i := 195) rfl), rfl⟩
theorem wq3_196 : Jvm.Cond.soleField "NoticeBoxesModel" "images" ∈ lw_tbl := wt_3 (List.mem_of_getElem? (i := 196) rfl)
theorem wq3_197 : Jvm.Cond.laysFinal "NoticeBoxesModel" "NoticeBoxesModel" "isKept" "[Z" ∈ wsA := List.mem_filter.mpr ⟨wt_3 (List.mem_of_getElem? (i := 197) rfl), rfl⟩
theorem wq3_198 : Jvm.Cond.soleField "NoticeBoxesModel" "isKept" ∈ lw_tbl := wt_3 (List.mem_of_getElem? (i := 198) rfl)
theorem wq3_199 : Jvm.Cond.laysFinal "NoticeBoxesModel" "NoticeBoxesModel" "bookClient" "[I" ∈ wsA := List.mem_filter.mpr ⟨wt_3 (List.mem_of_getElem? (i := 199) rfl), rfl⟩
theorem wq3_200 : Jvm.Cond.soleField "NoticeBoxesModel" "bookClient" ∈ lw_tbl := wt_3 (List.mem_of_getElem? (i := 200) rfl)
theorem wq3_201 : Jvm.Cond.laysFinal "NoticeBoxesModel" "NoticeBoxesModel" "bookHad" "[I" ∈ wsA := List.mem_filter.mpr ⟨wt_3 (List.mem_of_getElem? (i := 201) rfl), rfl⟩
theorem wq3_202 : Jvm.Cond.soleField "NoticeBoxesModel" "bookHad" ∈ lw_tbl := wt_3 (List.mem_of_getElem? (i := 202) rfl)
theorem wq3_203 : Jvm.Cond.lays "NoticeBoxesModel" "NoticeBoxesModel" "written" "I" ∈ wsA := List.mem_filter.mpr ⟨wt_3 (List.mem_of_getElem? (i := 203) rfl), rfl⟩
theorem wq3_204 : Jvm.Cond.soleField "NoticeBoxesModel" "written" ∈ lw_tbl := wt_3 (List.mem_of_getElem? (i := 204) rfl)
theorem wq3_205 : Jvm.Cond.laysFinal "NoticeBoxesModel" "NoticeBoxesModel" "many" "[I" ∈ wsA := List.mem_filter.mpr ⟨wt_3 (List.mem_of_getElem? (i := 205) rfl), rfl⟩
theorem wq3_206 : Jvm.Cond.soleField "NoticeBoxesModel" "many" ∈ lw_tbl := wt_3 (List.mem_of_getElem? (i := 206) rfl)
theorem wq3_207 : Jvm.Cond.laysFinal "NoticeBoxesModel" "NoticeBoxesModel" "told" "[I" ∈ wsA := List.mem_filter.mpr ⟨wt_3 (List.mem_of_getElem? (i := 207) rfl), rfl⟩
theorem wq3_208 : Jvm.Cond.soleField "NoticeBoxesModel" "told" ∈ lw_tbl := wt_3 (List.mem_of_getElem? (i := 208) rfl)
theorem wq3_209 : Jvm.Cond.lays "NoticeBoxesModel" "NoticeBoxesModel" "isLaid" "Z" ∈ wsA := List.mem_filter.mpr ⟨wt_3 (List.mem_of_getElem? (i := 209) rfl), rfl⟩
theorem wq3_210 : Jvm.Cond.soleField "NoticeBoxesModel" "isLaid" ∈ lw_tbl := wt_3 (List.mem_of_getElem? (i := 210) rfl)
theorem wq3_211 : Jvm.Cond.laysFinal "NoticeBoxesModel" "NoticeBoxesModel" "box" "[I" ∈ wsA := List.mem_filter.mpr ⟨wt_3 (List.mem_of_getElem? (i := 211) rfl), rfl⟩
theorem wq3_212 : Jvm.Cond.soleField "NoticeBoxesModel" "box" ∈ lw_tbl := wt_3 (List.mem_of_getElem? (i := 212) rfl)
theorem wq3_213 : Jvm.Cond.lays "NoticeBoxesModel" "NoticeBoxesModel" "boxes" "I" ∈ wsA := List.mem_filter.mpr ⟨wt_3 (List.mem_of_getElem? (i := 213) rfl), rfl⟩
theorem wq3_214 : Jvm.Cond.soleField "NoticeBoxesModel" "boxes" ∈ lw_tbl := wt_3 (List.mem_of_getElem? (i := 214) rfl)
theorem wq3_215 : Jvm.Cond.laysFinal "NoticeBoxesModel" "NoticeBoxesModel" "joined" "[I" ∈ wsA := List.mem_filter.mpr ⟨wt_3 (List.mem_of_getElem? (i := 215) rfl), rfl⟩
theorem wq3_216 : Jvm.Cond.soleField "NoticeBoxesModel" "joined" ∈ lw_tbl := wt_3 (List.mem_of_getElem? (i := 216) rfl)
theorem wq3_217 : Jvm.Cond.lays "NoticeBoxesModel" "NoticeBoxesModel" "places" "I" ∈ wsA := List.mem_filter.mpr ⟨wt_3 (List.mem_of_getElem? (i := 217) rfl), rfl⟩
theorem wq3_218 : Jvm.Cond.soleField "NoticeBoxesModel" "places" ∈ lw_tbl := wt_3 (List.mem_of_getElem? (i := 218) rfl)
theorem wq3_219 : Jvm.Cond.lays "NoticeBoxesModel" "NoticeBoxesModel" "gets" "I" ∈ wsA := List.mem_filter.mpr ⟨wt_3 (List.mem_of_getElem? (i := 219) rfl), rfl⟩
theorem wq3_220 : Jvm.Cond.soleField "NoticeBoxesModel" "gets" ∈ lw_tbl := wt_3 (List.mem_of_getElem? (i := 220) rfl)
theorem wq3_221 : Jvm.Cond.lays "NoticeBoxesModel" "NoticeBoxesModel" "vain" "I" ∈ wsA := List.mem_filter.mpr ⟨wt_3 (List.mem_of_getElem? (i := 221) rfl), rfl⟩
theorem wq3_222 : Jvm.Cond.soleField "NoticeBoxesModel" "vain" ∈ lw_tbl := wt_3 (List.mem_of_getElem? (i := 222) rfl)
theorem wq3_223 : Jvm.Cond.lays "NoticeBoxesModel" "NoticeBoxesModel" "links" "I" ∈ wsA := List.mem_filter.mpr ⟨wt_3 (List.mem_of_getElem? (i := 223) rfl), rfl⟩
theorem wq3_224 : Jvm.Cond.soleField "NoticeBoxesModel" "links" ∈ lw_tbl := wt_3 (List.mem_of_getElem? (i := 224) rfl)
theorem wq3_225 : Jvm.Cond.superclass "NoticeBoxesModel" "java/lang/Object" ∈ lw_tbl := wt_3 (List.mem_of_getElem? (i := 225) rfl)
theorem wq3_226 : Jvm.Cond.arrayClass Jvm.ClassFile.FieldType.boolean ∈ wsA := List.mem_filter.mpr ⟨wt_3 (List.mem_of_getElem? (i := 226) rfl), rfl⟩
theorem wq3_227 : Jvm.Cond.methodLink "NoticeBoxesLaw" (17 : Nat) ({ cls := "NoticeBoxesModel", name := "told", desc := "(I)I" } : Jvm.MethodName) ∈ wsA := List.mem_filter.mpr ⟨wt_3 (List.mem_of_getElem? (i := 227) rfl), rfl⟩
theorem wq3_228 : Jvm.Cond.instanceMethod ({ cls := "NoticeBoxesModel", name := "told", desc := "(I)I" } : Jvm.MethodName) ∈ wsA := List.mem_filter.mpr ⟨wt_3 (List.mem_of_getElem? (i := 228) rfl), rfl⟩
theorem wq3_229 : Jvm.Cond.selects "NoticeBoxesModel" ({ cls := "NoticeBoxesModel", name := "told", desc := "(I)I" } : Jvm.MethodName) ({ cls := "NoticeBoxesModel", name := "told", desc := "(I)I" } : Jvm.MethodName) ∈ wsA := List.mem_filter.mpr ⟨wt_3 (List.mem_of_getElem? (i := 229) rfl), rfl⟩
theorem wq3_230 : Jvm.Cond.code ({ cls := "NoticeBoxesModel", name := "told", desc := "(I)I" } : Jvm.MethodName) prog_13_method_38_code (2 : Nat) (Option.some Jvm.ClassFile.FieldType.int) ∈ wsA := List.mem_filter.mpr ⟨wt_3 (List.mem_of_getElem? (i := 230) rfl), rfl⟩
theorem wq3_231 : Jvm.Cond.methodLink "NoticeBoxesModel" (166 : Nat) ({ cls := "NoticeBoxesModel", name := "allTold", desc := "()I" } : Jvm.MethodName) ∈ wsA := List.mem_filter.mpr ⟨wt_3 (List.mem_of_getElem? (i := 231) rfl), rfl⟩
theorem wq3_232 : Jvm.Cond.privateMethod ({ cls := "NoticeBoxesModel", name := "allTold", desc := "()I" } : Jvm.MethodName) ∈ lw_tbl := wt_3 (List.mem_of_getElem? (i := 232) rfl)
theorem wq3_233 : Jvm.Cond.instanceMethod ({ cls := "NoticeBoxesModel", name := "allTold", desc := "()I" } : Jvm.MethodName) ∈ wsA := List.mem_filter.mpr ⟨wt_3 (List.mem_of_getElem? (i := 233) rfl), rfl⟩
theorem wq3_234 : Jvm.Cond.code ({ cls := "NoticeBoxesModel", name := "allTold", desc := "()I" } : Jvm.MethodName) prog_13_method_36_code (3 : Nat) (Option.some Jvm.ClassFile.FieldType.int) ∈ wsA := List.mem_filter.mpr ⟨wt_3 (List.mem_of_getElem? (i := 234) rfl), rfl⟩
theorem wq3_235 : Jvm.Cond.methodLink "NoticeBoxesModel" (120 : Nat) ({ cls := "NoticeBoxesModel", name := "lays", desc := "()V" } : Jvm.MethodName) ∈ wsA := List.mem_filter.mpr ⟨wt_3 (List.mem_of_getElem? (i := 235) rfl), rfl⟩
theorem wq3_236 : Jvm.Cond.privateMethod ({ cls := "NoticeBoxesModel", name := "lays", desc := "()V" } : Jvm.MethodName) ∈ lw_tbl := wt_3 (List.mem_of_getElem? (i := 236) rfl)
theorem wq3_237 : Jvm.Cond.instanceMethod ({ cls := "NoticeBoxesModel", name := "lays", desc := "()V" } : Jvm.MethodName) ∈ wsA := List.mem_filter.mpr ⟨wt_3 (List.mem_of_getElem? (i := 237) rfl), rfl⟩
theorem wq3_238 : Jvm.Cond.code ({ cls := "NoticeBoxesModel", name := "lays", desc := "()V" } : Jvm.MethodName) prog_13_method_26_code (2 : Nat) (Option.none : Option Jvm.ClassFile.FieldType) ∈ wsA := List.mem_filter.mpr ⟨wt_3 (List.mem_of_getElem? (i := 238) rfl), rfl⟩
theorem wq3_239 : Jvm.Cond.methodLink "NoticeBoxesModel" (113 : Nat) ({ cls := "NoticeBoxesModel", name := "laysLink", desc := "(II)V" } : Jvm.MethodName) ∈ wsA := List.mem_filter.mpr ⟨wt_3 (List.mem_of_getElem? (i := 239) rfl), rfl⟩
theorem wq4_0 : Jvm.Cond.privateMethod ({ cls := "NoticeBoxesModel", name := "laysLink", desc := "(II)V" } : Jvm.MethodName) ∈ lw_tbl := wt_4 (List.mem_of_getElem? (i := 0) rfl)
theorem wq4_1 : Jvm.Cond.instanceMethod ({ cls := "NoticeBoxesModel", name := "laysLink", desc := "(II)V" } : Jvm.MethodName) ∈ wsA := List.mem_filter.mpr ⟨wt_4 (List.mem_of_getElem? (i := 1) rfl), rfl⟩
theorem wq4_2 : Jvm.Cond.code ({ cls := "NoticeBoxesModel", name := "laysLink", desc := "(II)V" } : Jvm.MethodName) prog_13_method_25_code (5 : Nat) (Option.none : Option Jvm.ClassFile.FieldType) ∈ wsA := List.mem_filter.mpr ⟨wt_4 (List.mem_of_getElem? (i := 2) rfl), rfl⟩
theorem wq4_3 : Jvm.Cond.methodLink "NoticeBoxesModel" (93 : Nat) ({ cls := "NoticeBoxesModel", name := "gathersWishes", desc := "(I)V" } : Jvm.MethodName) ∈ wsA := List.mem_filter.mpr ⟨wt_4 (List.mem_of_getElem? (i := 3) rfl), rfl⟩
theorem wq4_4 : Jvm.Cond.privateMethod ({ cls := "NoticeBoxesModel", name := "gathersWishes", desc := "(I)V" } : Jvm.MethodName) ∈ lw_tbl := wt_4 (List.mem_of_getElem? (i := 4) rfl)
theorem wq4_5 : Jvm.Cond.instanceMethod ({ cls := "NoticeBoxesModel", name := "gathersWishes", desc := "(I)V" } : Jvm.MethodName) ∈ wsA := List.mem_filter.mpr ⟨wt_4 (List.mem_of_getElem? (i := 5) rfl), rfl⟩
theorem wq4_6 : Jvm.Cond.code ({ cls := "NoticeBoxesModel", name := "gathersWishes", desc := "(I)V" } : Jvm.MethodName) prog_13_method_22_code (4 : Nat) (Option.none : Option Jvm.ClassFile.FieldType) ∈ wsA := List.mem_filter.mpr ⟨wt_4 (List.mem_of_getElem? (i := 6) rfl), rfl⟩
theorem wq4_7 : Jvm.Cond.methodLink "NoticeBoxesModel" (87 : Nat) ({ cls := "NoticeBoxesModel", name := "wish", desc := "(II)I" } : Jvm.MethodName) ∈ wsA := List.mem_filter.mpr ⟨wt_4 (List.mem_of_getElem? (i := 7) rfl), rfl⟩
theorem wq4_8 : Jvm.Cond.privateMethod ({ cls := "NoticeBoxesModel", name := "wish", desc := "(II)I" } : Jvm.MethodName) ∈ lw_tbl := wt_4 (List.mem_of_getElem? (i := 8) rfl)
theorem wq4_9 : Jvm.Cond.instanceMethod ({ cls := "NoticeBoxesModel", name := "wish", desc := "(II)I" } : Jvm.MethodName) ∈ wsA := List.mem_filter.mpr ⟨wt_4 (List.mem_of_getElem? (i := 9) rfl), rfl⟩
theorem wq4_10 : Jvm.Cond.code ({ cls := "NoticeBoxesModel", name := "wish", desc := "(II)I" } : Jvm.MethodName) prog_13_method_5_code (3 : Nat) (Option.some Jvm.ClassFile.FieldType.int) ∈ wsA := List.mem_filter.mpr ⟨wt_4 (List.mem_of_getElem? (i := 10) rfl), rfl⟩
theorem wq4_11 : Jvm.Cond.methodLink "NoticeBoxesModel" (90 : Nat) ({ cls := "NoticeBoxesModel", name := "of", desc := "(II)I" } : Jvm.MethodName) ∈ wsA := List.mem_filter.mpr ⟨wt_4 (List.mem_of_getElem? (i := 11) rfl), rfl⟩
theorem wq4_12 : Jvm.Cond.privateMethod ({ cls := "NoticeBoxesModel", name := "of", desc := "(II)I" } : Jvm.MethodName) ∈ lw_tbl := wt_4 (List.mem_of_getElem? (i := 12) rfl)
theorem wq4_13 : Jvm.Cond.instanceMethod ({ cls := "NoticeBoxesModel", name := "of", desc := "(II)I" } : Jvm.MethodName) ∈ wsA := List.mem_filter.mpr ⟨wt_4 (List.mem_of_getElem? (i := 13) rfl), rfl⟩
theorem wq4_14 : Jvm.Cond.code ({ cls := "NoticeBoxesModel", name := "of", desc := "(II)I" } : Jvm.MethodName) prog_13_method_3_code (3 : Nat) (Option.some Jvm.ClassFile.FieldType.int) ∈ wsA := List.mem_filter.mpr ⟨wt_4 (List.mem_of_getElem? (i := 14) rfl), rfl⟩
theorem wq4_15 : Jvm.Cond.methodLink "NoticeBoxesModel" (84 : Nat) ({ cls := "NoticeBoxesModel", name := "comes", desc := "()V" } : Jvm.MethodName) ∈ wsA := List.mem_filter.mpr ⟨wt_4 (List.mem_of_getElem? (i := 15) rfl), rfl⟩
theorem wq4_16 : Jvm.Cond.privateMethod ({ cls := "NoticeBoxesModel", name := "comes", desc := "()V" } : Jvm.MethodName) ∈ lw_tbl := wt_4 (List.mem_of_getElem? (i := 16) rfl)
theorem wq4_17 : Jvm.Cond.instanceMethod ({ cls := "NoticeBoxesModel", name := "comes", desc := "()V" } : Jvm.MethodName) ∈ wsA := List.mem_filter.mpr ⟨wt_4 (List.mem_of_getElem? (i := 17) rfl), rfl⟩
theorem wq4_18 : Jvm.Cond.code ({ cls := "NoticeBoxesModel", name := "comes", desc := "()V" } : Jvm.MethodName) prog_13_method_19_code (5 : Nat) (Option.none : Option Jvm.ClassFile.FieldType) ∈ wsA := List.mem_filter.mpr ⟨wt_4 (List.mem_of_getElem? (i := 18) rfl), rfl⟩
theorem wq4_19 : Jvm.Cond.methodLink "NoticeBoxesModel" (67 : Nat) ({ cls := "NoticeBoxesModel", name := "covers", desc := "(II)Z" } : Jvm.MethodName) ∈ wsA := List.mem_filter.mpr ⟨wt_4 (List.mem_of_getElem? (i := 19) rfl), rfl⟩
theorem wq4_20 : Jvm.Cond.privateMethod ({ cls := "NoticeBoxesModel", name := "covers", desc := "(II)Z" } : Jvm.MethodName) ∈ lw_tbl := wt_4 (List.mem_of_getElem? (i := 20) rfl)
theorem wq4_21 : Jvm.Cond.instanceMethod ({ cls := "NoticeBoxesModel", name := "covers", desc := "(II)Z" } : Jvm.MethodName) ∈ wsA := List.mem_filter.mpr ⟨wt_4 (List.mem_of_getElem? (i := 21) rfl), rfl⟩
theorem wq4_22 : Jvm.Cond.code ({ cls := "NoticeBoxesModel", name := "covers", desc := "(II)Z" } : Jvm.MethodName) prog_13_method_13_code (5 : Nat) (Option.some Jvm.ClassFile.FieldType.boolean) ∈ wsA := List.mem_filter.mpr ⟨wt_4 (List.mem_of_getElem? (i := 22) rfl), rfl⟩
theorem wq4_23 : Jvm.Cond.methodLink "NoticeBoxesModel" (49 : Nat) ({ cls := "NoticeBoxesModel", name := "at", desc := "(II)I" } : Jvm.MethodName) ∈ wsA := List.mem_filter.mpr ⟨wt_4 (List.mem_of_getElem? (i := 23) rfl), rfl⟩
theorem wq4_24 : Jvm.Cond.privateMethod ({ cls := "NoticeBoxesModel", name := "at", desc := "(II)I" } : Jvm.MethodName) ∈ lw_tbl := wt_4 (List.mem_of_getElem? (i := 24) rfl)
theorem wq4_25 : Jvm.Cond.instanceMethod ({ cls := "NoticeBoxesModel", name := "at", desc := "(II)I" } : Jvm.MethodName) ∈ wsA := List.mem_filter.mpr ⟨wt_4 (List.mem_of_getElem? (i := 25) rfl), rfl⟩
theorem wq4_26 : Jvm.Cond.code ({ cls := "NoticeBoxesModel", name := "at", desc := "(II)I" } : Jvm.MethodName) prog_13_method_10_code (3 : Nat) (Option.some Jvm.ClassFile.FieldType.int) ∈ wsA := List.mem_filter.mpr ⟨wt_4 (List.mem_of_getElem? (i := 26) rfl), rfl⟩
theorem wq4_27 : Jvm.Cond.methodLink "NoticeBoxesModel" (63 : Nat) ({ cls := "NoticeBoxesModel", name := "copies", desc := "(II)V" } : Jvm.MethodName) ∈ wsA := List.mem_filter.mpr ⟨wt_4 (List.mem_of_getElem? (i := 27) rfl), rfl⟩
theorem wq4_28 : Jvm.Cond.privateMethod ({ cls := "NoticeBoxesModel", name := "copies", desc := "(II)V" } : Jvm.MethodName) ∈ lw_tbl := wt_4 (List.mem_of_getElem? (i := 28) rfl)
theorem wq4_29 : Jvm.Cond.instanceMethod ({ cls := "NoticeBoxesModel", name := "copies", desc := "(II)V" } : Jvm.MethodName) ∈ wsA := List.mem_filter.mpr ⟨wt_4 (List.mem_of_getElem? (i := 29) rfl), rfl⟩
theorem wq4_30 : Jvm.Cond.code ({ cls := "NoticeBoxesModel", name := "copies", desc := "(II)V" } : Jvm.MethodName) prog_13_method_16_code (4 : Nat) (Option.none : Option Jvm.ClassFile.FieldType) ∈ wsA := List.mem_filter.mpr ⟨wt_4 (List.mem_of_getElem? (i := 30) rfl), rfl⟩
theorem wq4_31 : Jvm.Cond.methodLink "NoticeBoxesModel" (71 : Nat) ({ cls := "NoticeBoxesModel", name := "settles", desc := "()V" } : Jvm.MethodName) ∈ wsA := List.mem_filter.mpr ⟨wt_4 (List.mem_of_getElem? (i := 31) rfl), rfl⟩
theorem wq4_32 : Jvm.Cond.privateMethod ({ cls := "NoticeBoxesModel", name := "settles", desc := "()V" } : Jvm.MethodName) ∈ lw_tbl := wt_4 (List.mem_of_getElem? (i := 32) rfl)
theorem wq4_33 : Jvm.Cond.instanceMethod ({ cls := "NoticeBoxesModel", name := "settles", desc := "()V" } : Jvm.MethodName) ∈ wsA := List.mem_filter.mpr ⟨wt_4 (List.mem_of_getElem? (i := 33) rfl), rfl⟩
theorem wq4_34 : Jvm.Cond.code ({ cls := "NoticeBoxesModel", name := "settles", desc := "()V" } : Jvm.MethodName) prog_13_method_17_code (4 : Nat) (Option.none : Option Jvm.ClassFile.FieldType) ∈ wsA := List.mem_filter.mpr ⟨wt_4 (List.mem_of_getElem? (i := 34) rfl), rfl⟩
theorem wq4_35 : Jvm.Cond.methodLink "NoticeBoxesModel" (60 : Nat) ({ cls := "NoticeBoxesModel", name := "order", desc := "(II)I" } : Jvm.MethodName) ∈ wsA := List.mem_filter.mpr ⟨wt_4 (List.mem_of_getElem? (i := 35) rfl), rfl⟩
theorem wq4_36 : Jvm.Cond.privateMethod ({ cls := "NoticeBoxesModel", name := "order", desc := "(II)I" } : Jvm.MethodName) ∈ lw_tbl := wt_4 (List.mem_of_getElem? (i := 36) rfl)
theorem wq4_37 : Jvm.Cond.instanceMethod ({ cls := "NoticeBoxesModel", name := "order", desc := "(II)I" } : Jvm.MethodName) ∈ wsA := List.mem_filter.mpr ⟨wt_4 (List.mem_of_getElem? (i := 37) rfl), rfl⟩
theorem wq4_38 : Jvm.Cond.code ({ cls := "NoticeBoxesModel", name := "order", desc := "(II)I" } : Jvm.MethodName) prog_13_method_15_code (5 : Nat) (Option.some Jvm.ClassFile.FieldType.int) ∈ wsA := List.mem_filter.mpr ⟨wt_4 (List.mem_of_getElem? (i := 38) rfl), rfl⟩
theorem wq4_39 : Jvm.Cond.methodLink "NoticeBoxesModel" (97 : Nat) ({ cls := "NoticeBoxesModel", name := "areNeighbours", desc := "(II)Z" } : Jvm.MethodName) ∈ wsA := List.mem_filter.mpr ⟨wt_4 (List.mem_of_getElem? (i := 39) rfl), rfl⟩
theorem wq4_40 : Jvm.Cond.privateMethod ({ cls := "NoticeBoxesModel", name := "areNeighbours", desc := "(II)Z" } : Jvm.MethodName) ∈ lw_tbl := wt_4 (List.mem_of_getElem? (i := 40) rfl)
theorem wq4_41 : Jvm.Cond.instanceMethod ({ cls := "NoticeBoxesModel", name := "areNeighbours", desc := "(II)Z" } : Jvm.MethodName) ∈ wsA := List.mem_filter.mpr ⟨wt_4 (List.mem_of_getElem? (i := 41) rfl), rfl⟩
theorem wq4_42 : Jvm.Cond.code ({ cls := "NoticeBoxesModel", name := "areNeighbours", desc := "(II)Z" } : Jvm.MethodName) prog_13_method_9_code (3 : Nat) (Option.some Jvm.ClassFile.FieldType.boolean) ∈ wsA := List.mem_filter.mpr ⟨wt_4 (List.mem_of_getElem? (i := 42) rfl), rfl⟩
theorem wq4_43 : Jvm.Cond.methodLink "NoticeBoxesModel" (45 : Nat) ({ cls := "NoticeBoxesModel", name := "isBroker", desc := "(I)Z" } : Jvm.MethodName) ∈ wsA := List.mem_filter.mpr ⟨wt_4 (List.mem_of_getElem? (i := 43) rfl), rfl⟩
theorem wq4_44 : Jvm.Cond.privateMethod ({ cls := "NoticeBoxesModel", name := "isBroker", desc := "(I)Z" } : Jvm.MethodName) ∈ lw_tbl := wt_4 (List.mem_of_getElem? (i := 44) rfl)
theorem wq4_45 : Jvm.Cond.instanceMethod ({ cls := "NoticeBoxesModel", name := "isBroker", desc := "(I)Z" } : Jvm.MethodName) ∈ wsA := List.mem_filter.mpr ⟨wt_4 (List.mem_of_getElem? (i := 45) rfl), rfl⟩
theorem wq4_46 : Jvm.Cond.code ({ cls := "NoticeBoxesModel", name := "isBroker", desc := "(I)Z" } : Jvm.MethodName) prog_13_method_6_code (2 : Nat) (Option.some Jvm.ClassFile.FieldType.boolean) ∈ wsA := List.mem_filter.mpr ⟨wt_4 (List.mem_of_getElem? (i := 46) rfl), rfl⟩
theorem wq4_47 : Jvm.Cond.methodLink "NoticeBoxesModel" (41 : Nat) ({ cls := "NoticeBoxesModel", name := "in", desc := "(III)Z" } : Jvm.MethodName) ∈ wsA := List.mem_filter.mpr ⟨wt_4 (List.mem_of_getElem? (i := 47) rfl), rfl⟩
theorem wq4_48 : Jvm.Cond.static ({ cls := "NoticeBoxesModel", name := "in", desc := "(III)Z" } : Jvm.MethodName) ∈ wsA := List.mem_filter.mpr ⟨wt_4 (List.mem_of_getElem? (i := 48) rfl), rfl⟩
theorem wq4_49 : Jvm.Cond.code ({ cls := "NoticeBoxesModel", name := "in", desc := "(III)Z" } : Jvm.MethodName) prog_13_method_2_code (3 : Nat) (Option.some Jvm.ClassFile.FieldType.boolean) ∈ wsA := List.mem_filter.mpr ⟨wt_4 (List.mem_of_getElem? (i := 49) rfl), rfl⟩
theorem wq4_50 : Jvm.Cond.methodLink "NoticeBoxesModel" (100 : Nat) ({ cls := "NoticeBoxesModel", name := "linkOf", desc := "(II)I" } : Jvm.MethodName) ∈ wsA := List.mem_filter.mpr ⟨wt_4 (List.mem_of_getElem? (i := 50) rfl), rfl⟩
theorem wq4_51 : Jvm.Cond.privateMethod ({ cls := "NoticeBoxesModel", name := "linkOf", desc := "(II)I" } : Jvm.MethodName) ∈ lw_tbl := wt_4 (List.mem_of_getElem? (i := 51) rfl)
theorem wq4_52 : Jvm.Cond.instanceMethod ({ cls := "NoticeBoxesModel", name := "linkOf", desc := "(II)I" } : Jvm.MethodName) ∈ wsA := List.mem_filter.mpr ⟨wt_4 (List.mem_of_getElem? (i := 52) rfl), rfl⟩
theorem wq4_53 : Jvm.Cond.code ({ cls := "NoticeBoxesModel", name := "linkOf", desc := "(II)I" } : Jvm.MethodName) prog_13_method_24_code (3 : Nat) (Option.some Jvm.ClassFile.FieldType.int) ∈ wsA := List.mem_filter.mpr ⟨wt_4 (List.mem_of_getElem? (i := 53) rfl), rfl⟩
theorem wq4_54 : Jvm.Cond.methodLink "NoticeBoxesModel" (103 : Nat) ({ cls := "NoticeBoxesModel", name := "gathersLink", desc := "(I)V" } : Jvm.MethodName) ∈ wsA := List.mem_filter.mpr ⟨wt_4 (List.mem_of_getElem? (i := 54) rfl), rfl⟩
theorem wq4_55 : Jvm.Cond.privateMethod ({ cls := "NoticeBoxesModel", name := "gathersLink", desc := "(I)V" } : Jvm.MethodName) ∈ lw_tbl := wt_4 (List.mem_of_getElem? (i := 55) rfl)
theorem wq4_56 : Jvm.Cond.instanceMethod ({ cls := "NoticeBoxesModel", name := "gathersLink", desc := "(I)V" } : Jvm.MethodName) ∈ wsA := List.mem_filter.mpr ⟨wt_4 (List.mem_of_getElem? (i := 56) rfl), rfl⟩
theorem wq4_57 : Jvm.Cond.code ({ cls := "NoticeBoxesModel", name := "gathersLink", desc := "(I)V" } : Jvm.MethodName) prog_13_method_23_code (4 : Nat) (Option.none : Option Jvm.ClassFile.FieldType) ∈ wsA := List.mem_filter.mpr ⟨wt_4 (List.mem_of_getElem? (i := 57) rfl), rfl⟩
theorem wq4_58 : Jvm.Cond.methodLink "NoticeBoxesModel" (106 : Nat) ({ cls := "NoticeBoxesModel", name := "joins", desc := "()V" } : Jvm.MethodName) ∈ wsA := List.mem_filter.mpr ⟨wt_4 (List.mem_of_getElem? (i := 58) rfl), rfl⟩
theorem wq4_59 : Jvm.Cond.privateMethod ({ cls := "NoticeBoxesModel", name := "joins", desc := "()V" } : Jvm.MethodName) ∈ lw_tbl := wt_4 (List.mem_of_getElem? (i := 59) rfl)
theorem wq4_60 : Jvm.Cond.instanceMethod ({ cls := "NoticeBoxesModel", name := "joins", desc := "()V" } : Jvm.MethodName) ∈ wsA := List.mem_filter.mpr ⟨wt_4 (List.mem_of_getElem? (i := 60) rfl), rfl⟩
theorem wq4_61 : Jvm.Cond.code ({ cls := "NoticeBoxesModel", name := "joins", desc := "()V" } : Jvm.MethodName) prog_13_method_21_code (7 : Nat) (Option.none : Option Jvm.ClassFile.FieldType) ∈ wsA := List.mem_filter.mpr ⟨wt_4 (List.mem_of_getElem? (i := 61) rfl), rfl⟩
theorem wq4_62 : Jvm.Cond.methodLink "NoticeBoxesModel" (81 : Nat) ({ cls := "NoticeBoxesModel", name := "wasteOf", desc := "(II)I" } : Jvm.MethodName) ∈ wsA := List.mem_filter.mpr ⟨wt_4 (List.mem_of_getElem? (i := 62) rfl), rfl⟩
theorem wq4_63 : Jvm.Cond.privateMethod ({ cls := "NoticeBoxesModel", name := "wasteOf", desc := "(II)I" } : Jvm.MethodName) ∈ lw_tbl := wt_4 (List.mem_of_getElem? (i := 63) rfl)
theorem wq4_64 : Jvm.Cond.instanceMethod ({ cls := "NoticeBoxesModel", name := "wasteOf", desc := "(II)I" } : Jvm.MethodName) ∈ wsA := List.mem_filter.mpr ⟨wt_4 (List.mem_of_getElem? (i := 64) rfl), rfl⟩
theorem wq4_65 : Jvm.Cond.code ({ cls := "NoticeBoxesModel", name := "wasteOf", desc := "(II)I" } : Jvm.MethodName) prog_13_method_20_code (7 : Nat) (Option.some Jvm.ClassFile.FieldType.int) ∈ wsA := List.mem_filter.mpr ⟨wt_4 (List.mem_of_getElem? (i := 65) rfl), rfl⟩
theorem wq4_66 : Jvm.Cond.methodLink "NoticeBoxesModel" (53 : Nat) ({ cls := "NoticeBoxesModel", name := "spread", desc := "(II)I" } : Jvm.MethodName) ∈ wsA := List.mem_filter.mpr ⟨wt_4 (List.mem_of_getElem? (i := 66) rfl), rfl⟩
theorem wq4_67 : Jvm.Cond.static ({ cls := "NoticeBoxesModel", name := "spread", desc := "(II)I" } : Jvm.MethodName) ∈ wsA := List.mem_filter.mpr ⟨wt_4 (List.mem_of_getElem? (i := 67) rfl), rfl⟩
theorem wq4_68 : Jvm.Cond.code ({ cls := "NoticeBoxesModel", name := "spread", desc := "(II)I" } : Jvm.MethodName) prog_13_method_11_code (2 : Nat) (Option.some Jvm.ClassFile.FieldType.int) ∈ wsA := List.mem_filter.mpr ⟨wt_4 (List.mem_of_getElem? (i := 68) rfl), rfl⟩
theorem wq4_69 : Jvm.Cond.methodLink "NoticeBoxesModel" (74 : Nat) ({ cls := "NoticeBoxesModel", name := "sizeOf", desc := "(I)I" } : Jvm.MethodName) ∈ wsA := List.mem_filter.mpr ⟨wt_4 (List.mem_of_getElem? (i := 69) rfl), rfl⟩
theorem wq4_70 : Jvm.Cond.privateMethod ({ cls := "NoticeBoxesModel", name := "sizeOf", desc := "(I)I" } : Jvm.MethodName) ∈ lw_tbl := wt_4 (List.mem_of_getElem? (i := 70) rfl)
theorem wq4_71 : Jvm.Cond.instanceMethod ({ cls := "NoticeBoxesModel", name := "sizeOf", desc := "(I)I" } : Jvm.MethodName) ∈ wsA := List.mem_filter.mpr ⟨wt_4 (List.mem_of_getElem? (i := 71) rfl), rfl⟩
theorem wq4_72 : Jvm.Cond.code ({ cls := "NoticeBoxesModel", name := "sizeOf", desc := "(I)I" } : Jvm.MethodName) prog_13_method_12_code (2 : Nat) (Option.some Jvm.ClassFile.FieldType.int) ∈ wsA := List.mem_filter.mpr ⟨wt_4 (List.mem_of_getElem? (i := 72) rfl), rfl⟩
theorem wq4_73 : Jvm.Cond.methodLink "NoticeBoxesModel" (78 : Nat) ({ cls := "NoticeBoxesModel", name := "shared", desc := "(II)I" } : Jvm.MethodName) ∈ wsA := List.mem_filter.mpr ⟨wt_4 (List.mem_of_getElem? (i := 73) rfl), rfl⟩
theorem wq4_74 : Jvm.Cond.privateMethod ({ cls := "NoticeBoxesModel", name := "shared", desc := "(II)I" } : Jvm.MethodName) ∈ lw_tbl := wt_4 (List.mem_of_getElem? (i := 74) rfl)
theorem wq4_75 : Jvm.Cond.instanceMethod ({ cls := "NoticeBoxesModel", name := "shared", desc := "(II)I" } : Jvm.MethodName) ∈ wsA := List.mem_filter.mpr ⟨wt_4 (List.mem_of_getElem? (i := 75) rfl), rfl⟩
theorem wq4_76 : Jvm.Cond.code ({ cls := "NoticeBoxesModel", name := "shared", desc := "(II)I" } : Jvm.MethodName) prog_13_method_14_code (7 : Nat) (Option.some Jvm.ClassFile.FieldType.int) ∈ wsA := List.mem_filter.mpr ⟨wt_4 (List.mem_of_getElem? (i := 76) rfl), rfl⟩
theorem wq4_77 : Jvm.Cond.methodLink "NoticeBoxesModel" (170 : Nat) ({ cls := "NoticeBoxesModel", name := "wrong", desc := "()I" } : Jvm.MethodName) ∈ wsA := List.mem_filter.mpr ⟨wt_4 (List.mem_of_getElem? (i := 77) rfl), rfl⟩
theorem wq4_78 : Jvm.Cond.privateMethod ({ cls := "NoticeBoxesModel", name := "wrong", desc := "()I" } : Jvm.MethodName) ∈ lw_tbl := wt_4 (List.mem_of_getElem? (i := 78) rfl)
theorem wq4_79 : Jvm.Cond.instanceMethod ({ cls := "NoticeBoxesModel", name := "wrong", desc := "()I" } : Jvm.MethodName) ∈ wsA := List.mem_filter.mpr ⟨wt_4 (List.mem_of_getElem? (i := 79) rfl), rfl⟩
theorem wq4_80 : Jvm.Cond.code ({ cls := "NoticeBoxesModel", name := "wrong", desc := "()I" } : Jvm.MethodName) prog_13_method_37_code (3 : Nat) (Option.some Jvm.ClassFile.FieldType.int) ∈ wsA := List.mem_filter.mpr ⟨wt_4 (List.mem_of_getElem? (i := 80) rfl), rfl⟩
theorem wq4_81 : Jvm.Cond.methodLink "NoticeBoxesModel" (163 : Nat) ({ cls := "NoticeBoxesModel", name := "isClient", desc := "(I)Z" } : Jvm.MethodName) ∈ wsA := List.mem_filter.mpr ⟨wt_4 (List.mem_of_getElem? (i := 81) rfl), rfl⟩
theorem wq4_82 : Jvm.Cond.privateMethod ({ cls := "NoticeBoxesModel", name := "isClient", desc := "(I)Z" } : Jvm.MethodName) ∈ lw_tbl := wt_4 (List.mem_of_getElem? (i := 82) rfl)
theorem wq4_83 : Jvm.Cond.instanceMethod ({ cls := "NoticeBoxesModel", name := "isClient", desc := "(I)Z" } : Jvm.MethodName) ∈ wsA := List.mem_filter.mpr ⟨wt_4 (List.mem_of_getElem? (i := 83) rfl), rfl⟩
theorem wq4_84 : Jvm.Cond.code ({ cls := "NoticeBoxesModel", name := "isClient", desc := "(I)Z" } : Jvm.MethodName) prog_13_method_7_code (2 : Nat) (Option.some Jvm.ClassFile.FieldType.boolean) ∈ wsA := List.mem_filter.mpr ⟨wt_4 (List.mem_of_getElem? (i := 84) rfl), rfl⟩
theorem wq4_85 : Jvm.Cond.constant "NoticeBoxesModel" (179 : Nat) (-1000000002 : Int32) ∈ wsA := List.mem_filter.mpr ⟨wt_4 (List.mem_of_getElem? (i := 85) rfl), rfl⟩
theorem wq4_86 : Jvm.Cond.methodLink "NoticeBoxesLaw" (22 : Nat) ({ cls := "NoticeBoxesModel", name := "brokerAt", desc := "(II)I" } : Jvm.MethodName) ∈ wsA := List.mem_filter.mpr ⟨wt_4 (List.mem_of_getElem? (i := 86) rfl), rfl⟩
theorem wq4_87 : Jvm.Cond.instanceMethod ({ cls := "NoticeBoxesModel", name := "brokerAt", desc := "(II)I" } : Jvm.MethodName) ∈ wsA := List.mem_filter.mpr ⟨wt_4 (List.mem_of_getElem? (i := 87) rfl), rfl⟩
theorem wq4_88 : Jvm.Cond.selects "NoticeBoxesModel" ({ cls := "NoticeBoxesModel", name := "brokerAt", desc := "(II)I" } : Jvm.MethodName) ({ cls := "NoticeBoxesModel", name := "brokerAt", desc := "(II)I" } : Jvm.MethodName) ∈ wsA := List.mem_filter.mpr ⟨wt_4 (List.mem_of_getElem? (i := 88) rfl), rfl⟩
theorem wq4_89 : Jvm.Cond.code ({ cls := "NoticeBoxesModel", name := "brokerAt", desc := "(II)I" } : Jvm.MethodName) prog_13_method_39_code (5 : Nat) (Option.some Jvm.ClassFile.FieldType.int) ∈ wsA := List.mem_filter.mpr ⟨wt_4 (List.mem_of_getElem? (i := 89) rfl), rfl⟩
theorem wq4_90 : Jvm.Cond.constant "NoticeBoxesModel" (180 : Nat) (-1000000001 : Int32) ∈ wsA := List.mem_filter.mpr ⟨wt_4 (List.mem_of_getElem? (i := 90) rfl), rfl⟩
theorem wq4_91 : Jvm.Cond.methodLink "NoticeBoxesLaw" (26 : Nat) ({ cls := "NoticeBoxesModel", name := "clientAt", desc := "(II)I" } : Jvm.MethodName) ∈ wsA := List.mem_filter.mpr ⟨wt_4 (List.mem_of_getElem? (i := 91) rfl), rfl⟩
theorem wq4_92 : Jvm.Cond.instanceMethod ({ cls := "NoticeBoxesModel", name := "clientAt", desc := "(II)I" } : Jvm.MethodName) ∈ wsA := List.mem_filter.mpr ⟨wt_4 (List.mem_of_getElem? (i := 92) rfl), rfl⟩
theorem wq4_93 : Jvm.Cond.selects "NoticeBoxesModel" ({ cls := "NoticeBoxesModel", name := "clientAt", desc := "(II)I" } : Jvm.MethodName) ({ cls := "NoticeBoxesModel", name := "clientAt", desc := "(II)I" } : Jvm.MethodName) ∈ wsA := List.mem_filter.mpr ⟨wt_4 (List.mem_of_getElem? (i := 93) rfl), rfl⟩
theorem wq4_94 : Jvm.Cond.code ({ cls := "NoticeBoxesModel", name := "clientAt", desc := "(II)I" } : Jvm.MethodName) prog_13_method_40_code (5 : Nat) (Option.some Jvm.ClassFile.FieldType.int) ∈ wsA := List.mem_filter.mpr ⟨wt_4 (List.mem_of_getElem? (i := 94) rfl), rfl⟩
theorem wq4_95 : Jvm.Cond.methodLink "NoticeBoxesLaw" (30 : Nat) ({ cls := "NoticeBoxesModel", name := "log", desc := "(II)I" } : Jvm.MethodName) ∈ wsA := List.mem_filter.mpr ⟨wt_4 (List.mem_of_getElem? (i := 95) rfl), rfl⟩
theorem wq4_96 : Jvm.Cond.instanceMethod ({ cls := "NoticeBoxesModel", name := "log", desc := "(II)I" } : Jvm.MethodName) ∈ wsA := List.mem_filter.mpr ⟨wt_4 (List.mem_of_getElem? (i := 96) rfl), rfl⟩
theorem wq4_97 : Jvm.Cond.selects "NoticeBoxesModel" ({ cls := "NoticeBoxesModel", name := "log", desc := "(II)I" } : Jvm.MethodName) ({ cls := "NoticeBoxesModel", name := "log", desc := "(II)I" } : Jvm.MethodName) ∈ wsA := List.mem_filter.mpr ⟨wt_4 (List.mem_of_getElem? (i := 97) rfl), rfl⟩
theorem wq4_98 : Jvm.Cond.code ({ cls := "NoticeBoxesModel", name := "log", desc := "(II)I" } : Jvm.MethodName) prog_13_method_41_code (3 : Nat) (Option.some Jvm.ClassFile.FieldType.int) ∈ wsA := List.mem_filter.mpr ⟨wt_4 (List.mem_of_getElem? (i := 98) rfl), rfl⟩
theorem wq4_99 : Jvm.Cond.methodLink "NoticeBoxesLaw" (34 : Nat) ({ cls := "NoticeBoxesModel", name := "wishAt", desc := "(II)I" } : Jvm.MethodName) ∈ wsA := List.mem_filter.mpr ⟨wt_4 (List.mem_of_getElem? (i := 99) rfl), rfl⟩
theorem wq4_100 : Jvm.Cond.instanceMethod ({ cls := "NoticeBoxesModel", name := "wishAt", desc := "(II)I" } : Jvm.MethodName) ∈ wsA := List.mem_filter.mpr ⟨wt_4 (List.mem_of_getElem? (i := 100) rfl), rfl⟩
theorem wq4_101 : Jvm.Cond.selects "NoticeBoxesModel" ({ cls := "NoticeBoxesModel", name := "wishAt", desc := "(II)I" } : Jvm.MethodName) ({ cls := "NoticeBoxesModel", name := "wishAt", desc := "(II)I" } : Jvm.MethodName) ∈ wsA := List.mem_filter.mpr ⟨wt_4 (List.mem_of_getElem? (i := 101) rfl), rfl⟩
theorem wq4_102 : Jvm.Cond.code ({ cls := "NoticeBoxesModel", name := "wishAt", desc := "(II)I" } : Jvm.MethodName) prog_13_method_44_code (3 : Nat) (Option.some Jvm.ClassFile.FieldType.int) ∈ wsA := List.mem_filter.mpr ⟨wt_4 (List.mem_of_getElem? (i := 102) rfl), rfl⟩
theorem wq4_103 : Jvm.Cond.methodLink "NoticeBoxesModel" (184 : Nat) ({ cls := "NoticeBoxesModel", name := "isWish", desc := "(I)Z" } : Jvm.MethodName) ∈ wsA := List.mem_filter.mpr ⟨wt_4 (List.mem_of_getElem? (i := 103) rfl), rfl⟩
theorem wq4_104 : Jvm.Cond.privateMethod ({ cls := "NoticeBoxesModel", name := "isWish", desc := "(I)Z" } : Jvm.MethodName) ∈ lw_tbl := wt_4 (List.mem_of_getElem? (i := 104) rfl)
theorem wq4_105 : Jvm.Cond.instanceMethod ({ cls := "NoticeBoxesModel", name := "isWish", desc := "(I)Z" } : Jvm.MethodName) ∈ wsA := List.mem_filter.mpr ⟨wt_4 (List.mem_of_getElem? (i := 105) rfl), rfl⟩
theorem wq4_106 : Jvm.Cond.code ({ cls := "NoticeBoxesModel", name := "isWish", desc := "(I)Z" } : Jvm.MethodName) prog_13_method_8_code (2 : Nat) (Option.some Jvm.ClassFile.FieldType.boolean) ∈ wsA := List.mem_filter.mpr ⟨wt_4 (List.mem_of_getElem? (i := 106) rfl), rfl⟩
theorem wq4_107 : Jvm.Cond.methodLink "NoticeBoxesModel" (181 : Nat) ({ cls := "NoticeBoxesModel", name := "takesWish", desc := "(II)V" } : Jvm.MethodName) ∈ wsA := List.mem_filter.mpr ⟨wt_4 (List.mem_of_getElem? (i := 107) rfl), rfl⟩
theorem wq4_108 : Jvm.Cond.privateMethod ({ cls := "NoticeBoxesModel", name := "takesWish", desc := "(II)V" } : Jvm.MethodName) ∈ lw_tbl := wt_4 (List.mem_of_getElem? (i := 108) rfl)
theorem wq4_109 : Jvm.Cond.instanceMethod ({ cls := "NoticeBoxesModel", name := "takesWish", desc := "(II)V" } : Jvm.MethodName) ∈ wsA := List.mem_filter.mpr ⟨wt_4 (List.mem_of_getElem? (i := 109) rfl), rfl⟩
theorem wq4_110 : Jvm.Cond.code ({ cls := "NoticeBoxesModel", name := "takesWish", desc := "(II)V" } : Jvm.MethodName) prog_13_method_42_code (4 : Nat) (Option.none : Option Jvm.ClassFile.FieldType) ∈ wsA := List.mem_filter.mpr ⟨wt_4 (List.mem_of_getElem? (i := 110) rfl), rfl⟩
theorem wq4_111 : Jvm.Cond.methodLink "NoticeBoxesModel" (187 : Nat) ({ cls := "NoticeBoxesModel", name := "covered", desc := "(I)I" } : Jvm.MethodName) ∈ wsA := List.mem_filter.mpr ⟨wt_4 (List.mem_of_getElem? (i := 111) rfl), rfl⟩
theorem wq4_112 : Jvm.Cond.privateMethod ({ cls := "NoticeBoxesModel", name := "covered", desc := "(I)I" } : Jvm.MethodName) ∈ lw_tbl := wt_4 (List.mem_of_getElem? (i := 112) rfl)
theorem wq4_113 : Jvm.Cond.instanceMethod ({ cls := "NoticeBoxesModel", name := "covered", desc := "(I)I" } : Jvm.MethodName) ∈ wsA := List.mem_filter.mpr ⟨wt_4 (List.mem_of_getElem? (i := 113) rfl), rfl⟩
theorem wq4_114 : Jvm.Cond.code ({ cls := "NoticeBoxesModel", name := "covered", desc := "(I)I" } : Jvm.MethodName) prog_13_method_43_code (4 : Nat) (Option.some Jvm.ClassFile.FieldType.int) ∈ wsA := List.mem_filter.mpr ⟨wt_4 (List.mem_of_getElem? (i := 114) rfl), rfl⟩
theorem wq4_115 : Jvm.Cond.methodLink "NoticeBoxesLaw" (38 : Nat) ({ cls := "NoticeBoxesModel", name := "toldOn", desc := "(II)I" } : Jvm.MethodName) ∈ wsA := List.mem_filter.mpr ⟨wt_4 (List.mem_of_getElem? (i := 115) rfl), rfl⟩
theorem wq4_116 : Jvm.Cond.instanceMethod ({ cls := "NoticeBoxesModel", name := "toldOn", desc := "(II)I" } : Jvm.MethodName) ∈ wsA := List.mem_filter.mpr ⟨wt_4 (List.mem_of_getElem? (i := 116) rfl), rfl⟩
theorem wq4_117 : Jvm.Cond.selects "NoticeBoxesModel" ({ cls := "NoticeBoxesModel", name := "toldOn", desc := "(II)I" } : Jvm.MethodName) ({ cls := "NoticeBoxesModel", name := "toldOn", desc := "(II)I" } : Jvm.MethodName) ∈ wsA := List.mem_filter.mpr ⟨wt_4 (List.mem_of_getElem? (i := 117) rfl), rfl⟩
theorem wq4_118 : Jvm.Cond.code ({ cls := "NoticeBoxesModel", name := "toldOn", desc := "(II)I" } : Jvm.MethodName) prog_13_method_45_code (3 : Nat) (Option.some Jvm.ClassFile.FieldType.int) ∈ wsA := List.mem_filter.mpr ⟨wt_4 (List.mem_of_getElem? (i := 118) rfl), rfl⟩
theorem wq4_119 : Jvm.Cond.methodLink "NoticeBoxesLaw" (43 : Nat) ({ cls := "NoticeBoxesModel", name := "box", desc := "(IIII)I" } : Jvm.MethodName) ∈ wsA := List.mem_filter.mpr ⟨wt_4 (List.mem_of_getElem? (i := 119) rfl), rfl⟩
theorem wq4_120 : Jvm.Cond.instanceMethod ({ cls := "NoticeBoxesModel", name := "box", desc := "(IIII)I" } : Jvm.MethodName) ∈ wsA := List.mem_filter.mpr ⟨wt_4 (List.mem_of_getElem? (i := 120) rfl), rfl⟩
theorem wq4_121 : Jvm.Cond.selects "NoticeBoxesModel" ({ cls := "NoticeBoxesModel", name := "box", desc := "(IIII)I" } : Jvm.MethodName) ({ cls := "NoticeBoxesModel", name := "box", desc := "(IIII)I" } : Jvm.MethodName) ∈ wsA := List.mem_filter.mpr ⟨wt_4 (List.mem_of_getElem? (i := 121) rfl), rfl⟩
theorem wq4_122 : Jvm.Cond.code ({ cls := "NoticeBoxesModel", name := "box", desc := "(IIII)I" } : Jvm.MethodName) prog_13_method_47_code (7 : Nat) (Option.some Jvm.ClassFile.FieldType.int) ∈ wsA := List.mem_filter.mpr ⟨wt_4 (List.mem_of_getElem? (i := 122) rfl), rfl⟩
theorem wq4_123 : Jvm.Cond.methodLink "NoticeBoxesModel" (190 : Nat) ({ cls := "NoticeBoxesModel", name := "isWishBox", desc := "()Z" } : Jvm.MethodName) ∈ wsA := List.mem_filter.mpr ⟨wt_4 (List.mem_of_getElem? (i := 123) rfl), rfl⟩
theorem wq4_124 : Jvm.Cond.privateMethod ({ cls := "NoticeBoxesModel", name := "isWishBox", desc := "()Z" } : Jvm.MethodName) ∈ lw_tbl := wt_4 (List.mem_of_getElem? (i := 124) rfl)
theorem wq4_125 : Jvm.Cond.instanceMethod ({ cls := "NoticeBoxesModel", name := "isWishBox", desc := "()Z" } : Jvm.MethodName) ∈ wsA := List.mem_filter.mpr ⟨wt_4 (List.mem_of_getElem? (i := 125) rfl), rfl⟩
theorem wq4_126 : Jvm.Cond.code ({ cls := "NoticeBoxesModel", name := "isWishBox", desc := "()Z" } : Jvm.MethodName) prog_13_method_46_code (3 : Nat) (Option.some Jvm.ClassFile.FieldType.boolean) ∈ wsA := List.mem_filter.mpr ⟨wt_4 (List.mem_of_getElem? (i := 126) rfl), rfl⟩
theorem wq4_127 : Jvm.Cond.methodLink "NoticeBoxesLaw" (48 : Nat) ({ cls := "NoticeBoxesModel", name := "would", desc := "(IIIII)I" } : Jvm.MethodName) ∈ wsA := List.mem_filter.mpr ⟨wt_4 (List.mem_of_getElem? (i := 127) rfl), rfl⟩
theorem wq4_128 : Jvm.Cond.instanceMethod ({ cls := "NoticeBoxesModel", name := "would", desc := "(IIIII)I" } : Jvm.MethodName) ∈ wsA := List.mem_filter.mpr ⟨wt_4 (List.mem_of_getElem? (i := 128) rfl), rfl⟩
theorem wq4_129 : Jvm.Cond.selects "NoticeBoxesModel" ({ cls := "NoticeBoxesModel", name := "would", desc := "(IIIII)I" } : Jvm.MethodName) ({ cls := "NoticeBoxesModel", name := "would", desc := "(IIIII)I" } : Jvm.MethodName) ∈ wsA := List.mem_filter.mpr ⟨wt_4 (List.mem_of_getElem? (i := 129) rfl), rfl⟩
theorem wq4_130 : Jvm.Cond.code ({ cls := "NoticeBoxesModel", name := "would", desc := "(IIIII)I" } : Jvm.MethodName) prog_13_method_48_code (6 : Nat) (Option.some Jvm.ClassFile.FieldType.int) ∈ wsA := List.mem_filter.mpr ⟨wt_4 (List.mem_of_getElem? (i := 130) rfl), rfl⟩
theorem wq4_131 : Jvm.Cond.methodLink "NoticeBoxesModel" (194 : Nat) ({ cls := "NoticeBoxesModel", name := "areThings", desc := "(III)Z" } : Jvm.MethodName) ∈ wsA := List.mem_filter.mpr ⟨wt_4 (List.mem_of_getElem? (i := 131) rfl), rfl⟩
theorem wq4_132 : Jvm.Cond.static ({ cls := "NoticeBoxesModel", name := "areThings", desc := "(III)Z" } : Jvm.MethodName) ∈ wsA := List.mem_filter.mpr ⟨wt_4 (List.mem_of_getElem? (i := 132) rfl), rfl⟩
theorem wq4_133 : Jvm.Cond.code ({ cls := "NoticeBoxesModel", name := "areThings", desc := "(III)Z" } : Jvm.MethodName) prog_13_method_35_code (3 : Nat) (Option.some Jvm.ClassFile.FieldType.boolean) ∈ wsA := List.mem_filter.mpr ⟨wt_4 (List.mem_of_getElem? (i := 133) rfl), rfl⟩
theorem wq4_134 : Jvm.Cond.methodLink "NoticeBoxesModel" (147 : Nat) ({ cls := "NoticeBoxesModel", name := "walks", desc := "(IIII)V" } : Jvm.MethodName) ∈ wsA := List.mem_filter.mpr ⟨wt_4 (List.mem_of_getElem? (i := 134) rfl), rfl⟩
theorem wq4_135 : Jvm.Cond.privateMethod ({ cls := "NoticeBoxesModel", name := "walks", desc := "(IIII)V" } : Jvm.MethodName) ∈ lw_tbl := wt_4 (List.mem_of_getElem? (i := 135) rfl)
theorem wq4_136 : Jvm.Cond.instanceMethod ({ cls := "NoticeBoxesModel", name := "walks", desc := "(IIII)V" } : Jvm.MethodName) ∈ wsA := List.mem_filter.mpr ⟨wt_4 (List.mem_of_getElem? (i := 136) rfl), rfl⟩
theorem wq4_137 : Jvm.Cond.code ({ cls := "NoticeBoxesModel", name := "walks", desc := "(IIII)V" } : Jvm.MethodName) prog_13_method_30_code (10 : Nat) (Option.none : Option Jvm.ClassFile.FieldType) ∈ wsA := List.mem_filter.mpr ⟨wt_4 (List.mem_of_getElem? (i := 137) rfl), rfl⟩
theorem wq4_138 : Jvm.Cond.methodLink "NoticeBoxesModel" (129 : Nat) ({ cls := "NoticeBoxesModel", name := "goes", desc := "(IIIII)Z" } : Jvm.MethodName) ∈ wsA := List.mem_filter.mpr ⟨wt_4 (List.mem_of_getElem? (i := 138) rfl), rfl⟩
theorem wq4_139 : Jvm.Cond.privateMethod ({ cls := "NoticeBoxesModel", name := "goes", desc := "(IIIII)Z" } : Jvm.MethodName) ∈ lw_tbl := wt_4 (List.mem_of_getElem? (i := 139) rfl)
theorem wq4_140 : Jvm.Cond.instanceMethod ({ cls := "NoticeBoxesModel", name := "goes", desc := "(IIIII)Z" } : Jvm.MethodName) ∈ wsA := List.mem_filter.mpr ⟨wt_4 (List.mem_of_getElem? (i := 140) rfl), rfl⟩
theorem wq4_141 : Jvm.Cond.code ({ cls := "NoticeBoxesModel", name := "goes", desc := "(IIIII)Z" } : Jvm.MethodName) prog_13_method_28_code (9 : Nat) (Option.some Jvm.ClassFile.FieldType.boolean) ∈ wsA := List.mem_filter.mpr ⟨wt_4 (List.mem_of_getElem? (i := 141) rfl), rfl⟩
theorem wq4_142 : Jvm.Cond.methodLink "NoticeBoxesModel" (116 : Nat) ({ cls := "NoticeBoxesModel", name := "fits", desc := "([IIIII)Z" } : Jvm.MethodName) ∈ wsA := List.mem_filter.mpr ⟨wt_4 (List.mem_of_getElem? (i := 142) rfl), rfl⟩
theorem wq4_143 : Jvm.Cond.static ({ cls := "NoticeBoxesModel", name := "fits", desc := "([IIIII)Z" } : Jvm.MethodName) ∈ wsA := List.mem_filter.mpr ⟨wt_4 (List.mem_of_getElem? (i := 143) rfl), rfl⟩
theorem wq4_144 : Jvm.Cond.code ({ cls := "NoticeBoxesModel", name := "fits", desc := "([IIIII)Z" } : Jvm.MethodName) prog_13_method_27_code (5 : Nat) (Option.some Jvm.ClassFile.FieldType.boolean) ∈ wsA := List.mem_filter.mpr ⟨wt_4 (List.mem_of_getElem? (i := 144) rfl), rfl⟩
theorem wq4_145 : Jvm.Cond.methodLink "NoticeBoxesModel" (136 : Nat) ({ cls := "NoticeBoxesModel", name := "isWished", desc := "(IIII)Z" } : Jvm.MethodName) ∈ wsA := List.mem_filter.mpr ⟨wt_4 (List.mem_of_getElem? (i := 145) rfl), rfl⟩
theorem wq4_146 : Jvm.Cond.privateMethod ({ cls := "NoticeBoxesModel", name := "isWished", desc := "(IIII)Z" } : Jvm.MethodName) ∈ lw_tbl := wt_4 (List.mem_of_getElem? (i := 146) rfl)
theorem wq4_147 : Jvm.Cond.instanceMethod ({ cls := "NoticeBoxesModel", name := "isWished", desc := "(IIII)Z" } : Jvm.MethodName) ∈ wsA := List.mem_filter.mpr ⟨wt_4 (List.mem_of_getElem? (i := 147) rfl), rfl⟩
theorem wq4_148 : Jvm.Cond.code ({ cls := "NoticeBoxesModel", name := "isWished", desc := "(IIII)Z" } : Jvm.MethodName) prog_13_method_29_code (7 : Nat) (Option.some Jvm.ClassFile.FieldType.boolean) ∈ wsA := List.mem_filter.mpr ⟨wt_4 (List.mem_of_getElem? (i := 148) rfl), rfl⟩
theorem wq4_149 : Jvm.Cond.methodLink "NoticeBoxesLaw" (52 : Nat) ({ cls := "NoticeBoxesModel", name := "broker", desc := "(I)I" } : Jvm.MethodName) ∈ wsA := List.mem_filter.mpr ⟨wt_4 (List.mem_of_getElem? (i := 149) rfl), rfl⟩
theorem wq4_150 : Jvm.Cond.instanceMethod ({ cls := "NoticeBoxesModel", name := "broker", desc := "(I)I" } : Jvm.MethodName) ∈ wsA := List.mem_filter.mpr ⟨wt_4 (List.mem_of_getElem? (i := 150) rfl), rfl⟩
theorem wq4_151 : Jvm.Cond.selects "NoticeBoxesModel" ({ cls := "NoticeBoxesModel", name := "broker", desc := "(I)I" } : Jvm.MethodName) ({ cls := "NoticeBoxesModel", name := "broker", desc := "(I)I" } : Jvm.MethodName) ∈ wsA := List.mem_filter.mpr ⟨wt_4 (List.mem_of_getElem? (i := 151) rfl), rfl⟩
theorem wq4_152 : Jvm.Cond.code ({ cls := "NoticeBoxesModel", name := "broker", desc := "(I)I" } : Jvm.MethodName) prog_13_method_50_code (2 : Nat) (Option.some Jvm.ClassFile.FieldType.int) ∈ wsA := List.mem_filter.mpr ⟨wt_4 (List.mem_of_getElem? (i := 152) rfl), rfl⟩
theorem wq4_153 : Jvm.Cond.constant "NoticeBoxesModel" (197 : Nat) (-1000000004 : Int32) ∈ wsA := List.mem_filter.mpr ⟨wt_4 (List.mem_of_getElem? (i := 153) rfl), rfl⟩
theorem wq4_154 : Jvm.Cond.methodLink "NoticeBoxesModel" (198 : Nat) ({ cls := "NoticeBoxesModel", name := "deed", desc := "()V" } : Jvm.MethodName) ∈ wsA := List.mem_filter.mpr ⟨wt_4 (List.mem_of_getElem? (i := 154) rfl), rfl⟩
theorem wq4_155 : Jvm.Cond.privateMethod ({ cls := "NoticeBoxesModel", name := "deed", desc := "()V" } : Jvm.MethodName) ∈ lw_tbl := wt_4 (List.mem_of_getElem? (i := 155) rfl)
theorem wq4_156 : Jvm.Cond.instanceMethod ({ cls := "NoticeBoxesModel", name := "deed", desc := "()V" } : Jvm.MethodName) ∈ wsA := List.mem_filter.mpr ⟨wt_4 (List.mem_of_getElem? (i := 156) rfl), rfl⟩
theorem wq4_157 : Jvm.Cond.code ({ cls := "NoticeBoxesModel", name := "deed", desc := "()V" } : Jvm.MethodName) prog_13_method_49_code (2 : Nat) (Option.none : Option Jvm.ClassFile.FieldType) ∈ wsA := List.mem_filter.mpr ⟨wt_4 (List.mem_of_getElem? (i := 157) rfl), rfl⟩
theorem wq4_158 : Jvm.Cond.methodLink "NoticeBoxesLaw" (56 : Nat) ({ cls := "NoticeBoxesModel", name := "client", desc := "(I)I" } : Jvm.MethodName) ∈ wsA := List.mem_filter.mpr ⟨wt_4 (List.mem_of_getElem? (i := 158) rfl), rfl⟩
theorem wq4_159 : Jvm.Cond.instanceMethod ({ cls := "NoticeBoxesModel", name := "client", desc := "(I)I" } : Jvm.MethodName) ∈ wsA := List.mem_filter.mpr ⟨wt_4 (List.mem_of_getElem? (i := 159) rfl), rfl⟩
theorem wq4_160 : Jvm.Cond.selects "NoticeBoxesModel" ({ cls := "NoticeBoxesModel", name := "client", desc := "(I)I" } : Jvm.MethodName) ({ cls := "NoticeBoxesModel", name := "client", desc := "(I)I" } : Jvm.MethodName) ∈ wsA := List.mem_filter.mpr ⟨wt_4 (List.mem_of_getElem? (i := 160) rfl), rfl⟩
theorem wq4_161 : Jvm.Cond.code ({ cls := "NoticeBoxesModel", name := "client", desc := "(I)I" } : Jvm.MethodName) prog_13_method_51_code (4 : Nat) (Option.some Jvm.ClassFile.FieldType.int) ∈ wsA := List.mem_filter.mpr ⟨wt_4 (List.mem_of_getElem? (i := 161) rfl), rfl⟩
theorem wq4_162 : Jvm.Cond.methodLink "NoticeBoxesModel" (143 : Nat) ({ cls := "NoticeBoxesModel", name := "sets", desc := "(III)V" } : Jvm.MethodName) ∈ wsA := List.mem_filter.mpr ⟨wt_4 (List.mem_of_getElem? (i := 162) rfl), rfl⟩
theorem wq4_163 : Jvm.Cond.privateMethod ({ cls := "NoticeBoxesModel", name := "sets", desc := "(III)V" } : Jvm.MethodName) ∈ lw_tbl := wt_4 (List.mem_of_getElem? (i := 163) rfl)
theorem wq4_164 : Jvm.Cond.instanceMethod ({ cls := "NoticeBoxesModel", name := "sets", desc := "(III)V" } : Jvm.MethodName) ∈ wsA := List.mem_filter.mpr ⟨wt_4 (List.mem_of_getElem? (i := 164) rfl), rfl⟩
theorem wq4_165 : Jvm.Cond.code ({ cls := "NoticeBoxesModel", name := "sets", desc := "(III)V" } : Jvm.MethodName) prog_13_method_4_code (4 : Nat) (Option.none : Option Jvm.ClassFile.FieldType) ∈ wsA := List.mem_filter.mpr ⟨wt_4 (List.mem_of_getElem? (i := 165) rfl), rfl⟩
theorem wq4_166 : Jvm.Cond.methodLink "NoticeBoxesLaw" (61 : Nat) ({ cls := "NoticeBoxesModel", name := "wish", desc := "(IIIIIII)I" } : Jvm.MethodName) ∈ wsA := List.mem_filter.mpr ⟨wt_4 (List.mem_of_getElem? (i := 166) rfl), rfl⟩
theorem wq4_167 : Jvm.Cond.instanceMethod ({ cls := "NoticeBoxesModel", name := "wish", desc := "(IIIIIII)I" } : Jvm.MethodName) ∈ wsA := List.mem_filter.mpr ⟨wt_4 (List.mem_of_getElem? (i := 167) rfl), rfl⟩
theorem wq4_168 : Jvm.Cond.selects "NoticeBoxesModel" ({ cls := "NoticeBoxesModel", name := "wish", desc := "(IIIIIII)I" } : Jvm.MethodName) ({ cls := "NoticeBoxesModel", name := "wish", desc := "(IIIIIII)I" } : Jvm.MethodName) ∈ wsA := List.mem_filter.mpr ⟨wt_4 (List.mem_of_getElem? (i := 168) rfl), rfl⟩
theorem wq4_169 : Jvm.Cond.code ({ cls := "NoticeBoxesModel", name := "wish", desc := "(IIIIIII)I" } : Jvm.MethodName) prog_13_method_54_code (9 : Nat) (Option.some Jvm.ClassFile.FieldType.int) ∈ wsA := List.mem_filter.mpr ⟨wt_4 (List.mem_of_getElem? (i := 169) rfl), rfl⟩
theorem wq4_170 : Jvm.Cond.methodLink "NoticeBoxesModel" (201 : Nat) ({ cls := "NoticeBoxesModel", name := "isKind", desc := "(II)Z" } : Jvm.MethodName) ∈ wsA := List.mem_filter.mpr ⟨wt_4 (List.mem_of_getElem? (i := 170) rfl), rfl⟩
theorem wq4_171 : Jvm.Cond.static ({ cls := "NoticeBoxesModel", name := "isKind", desc := "(II)Z" } : Jvm.MethodName) ∈ wsA := List.mem_filter.mpr ⟨wt_4 (List.mem_of_getElem? (i := 171) rfl), rfl⟩
theorem wq4_172 : Jvm.Cond.code ({ cls := "NoticeBoxesModel", name := "isKind", desc := "(II)Z" } : Jvm.MethodName) prog_13_method_52_code (2 : Nat) (Option.some Jvm.ClassFile.FieldType.boolean) ∈ wsA := List.mem_filter.mpr ⟨wt_4 (List.mem_of_getElem? (i := 172) rfl), rfl⟩
theorem wq4_173 : Jvm.Cond.methodLink "NoticeBoxesModel" (204 : Nat) ({ cls := "NoticeBoxesModel", name := "bounds", desc := "(IIII)V" } : Jvm.MethodName) ∈ wsA := List.mem_filter.mpr ⟨wt_4 (List.mem_of_getElem? (i := 173) rfl), rfl⟩
theorem wq4_174 : Jvm.Cond.privateMethod ({ cls := "NoticeBoxesModel", name := "bounds", desc := "(IIII)V" } : Jvm.MethodName) ∈ lw_tbl := wt_4 (List.mem_of_getElem? (i := 174) rfl)
theorem wq4_175 : Jvm.Cond.instanceMethod ({ cls := "NoticeBoxesModel", name := "bounds", desc := "(IIII)V" } : Jvm.MethodName) ∈ wsA := List.mem_filter.mpr ⟨wt_4 (List.mem_of_getElem? (i := 175) rfl), rfl⟩
theorem wq4_176 : Jvm.Cond.code ({ cls := "NoticeBoxesModel", name := "bounds", desc := "(IIII)V" } : Jvm.MethodName) prog_13_method_53_code (5 : Nat) (Option.none : Option Jvm.ClassFile.FieldType) ∈ wsA := List.mem_filter.mpr ⟨wt_4 (List.mem_of_getElem? (i := 176) rfl), rfl⟩
theorem wq4_177 : Jvm.Cond.methodLink "NoticeBoxesLaw" (65 : Nat) ({ cls := "NoticeBoxesModel", name := "drop", desc := "(I)I" } : Jvm.MethodName) ∈ wsA := List.mem_filter.mpr ⟨wt_4 (List.mem_of_getElem? (i := 177) rfl), rfl⟩
theorem wq4_178 : Jvm.Cond.instanceMethod ({ cls := "NoticeBoxesModel", name := "drop", desc := "(I)I" } : Jvm.MethodName) ∈ wsA := List.mem_filter.mpr ⟨wt_4 (List.mem_of_getElem? (i := 178) rfl), rfl⟩
theorem wq4_179 : Jvm.Cond.selects "NoticeBoxesModel" ({ cls := "NoticeBoxesModel", name := "drop", desc := "(I)I" } : Jvm.MethodName) ({ cls := "NoticeBoxesModel", name := "drop", desc := "(I)I" } : Jvm.MethodName) ∈ wsA := List.mem_filter.mpr ⟨wt_4 (List.mem_of_getElem? (i := 179) rfl), rfl⟩
theorem wq4_180 : Jvm.Cond.code ({ cls := "NoticeBoxesModel", name := "drop", desc := "(I)I" } : Jvm.MethodName) prog_13_method_56_code (2 : Nat) (Option.some Jvm.ClassFile.FieldType.int) ∈ wsA := List.mem_filter.mpr ⟨wt_4 (List.mem_of_getElem? (i := 180) rfl), rfl⟩
theorem wq4_181 : Jvm.Cond.methodLink "NoticeBoxesModel" (207 : Nat) ({ cls := "NoticeBoxesModel", name := "dropsWish", desc := "(I)V" } : Jvm.MethodName) ∈ wsA := List.mem_filter.mpr ⟨wt_4 (List.mem_of_getElem? (i := 181) rfl), rfl⟩
theorem wq4_182 : Jvm.Cond.privateMethod ({ cls := "NoticeBoxesModel", name := "dropsWish", desc := "(I)V" } : Jvm.MethodName) ∈ lw_tbl := wt_4 (List.mem_of_getElem? (i := 182) rfl)
theorem wq4_183 : Jvm.Cond.instanceMethod ({ cls := "NoticeBoxesModel", name := "dropsWish", desc := "(I)V" } : Jvm.MethodName) ∈ wsA := List.mem_filter.mpr ⟨wt_4 (List.mem_of_getElem? (i := 183) rfl), rfl⟩
theorem wq4_184 : Jvm.Cond.code ({ cls := "NoticeBoxesModel", name := "dropsWish", desc := "(I)V" } : Jvm.MethodName) prog_13_method_55_code (3 : Nat) (Option.none : Option Jvm.ClassFile.FieldType) ∈ wsA := List.mem_filter.mpr ⟨wt_4 (List.mem_of_getElem? (i := 184) rfl), rfl⟩
theorem wq4_185 : Jvm.Cond.methodLink "NoticeBoxesLaw" (69 : Nat) ({ cls := "NoticeBoxesModel", name := "most", desc := "(I)I" } : Jvm.MethodName) ∈ wsA := List.mem_filter.mpr ⟨wt_4 (List.mem_of_getElem? (i := 185) rfl), rfl⟩
theorem wq4_186 : Jvm.Cond.instanceMethod ({ cls := "NoticeBoxesModel", name := "most", desc := "(I)I" } : Jvm.MethodName) ∈ wsA := List.mem_filter.mpr ⟨wt_4 (List.mem_of_getElem? (i := 186) rfl), rfl⟩
theorem wq4_187 : Jvm.Cond.selects "NoticeBoxesModel" ({ cls := "NoticeBoxesModel", name := "most", desc := "(I)I" } : Jvm.MethodName) ({ cls := "NoticeBoxesModel", name := "most", desc := "(I)I" } : Jvm.MethodName) ∈ wsA := List.mem_filter.mpr ⟨wt_4 (List.mem_of_getElem? (i := 187) rfl), rfl⟩
theorem wq4_188 : Jvm.Cond.code ({ cls := "NoticeBoxesModel", name := "most", desc := "(I)I" } : Jvm.MethodName) prog_13_method_57_code (3 : Nat) (Option.some Jvm.ClassFile.FieldType.int) ∈ wsA := List.mem_filter.mpr ⟨wt_4 (List.mem_of_getElem? (i := 188) rfl), rfl⟩
theorem wq4_189 : Jvm.Cond.methodLink "NoticeBoxesLaw" (73 : Nat) ({ cls := "NoticeBoxesModel", name := "put", desc := "(IIII)I" } : Jvm.MethodName) ∈ wsA := List.mem_filter.mpr ⟨wt_4 (List.mem_of_getElem? (i := 189) rfl), rfl⟩
theorem wq4_190 : Jvm.Cond.instanceMethod ({ cls := "NoticeBoxesModel", name := "put", desc := "(IIII)I" } : Jvm.MethodName) ∈ wsA := List.mem_filter.mpr ⟨wt_4 (List.mem_of_getElem? (i := 190) rfl), rfl⟩
theorem wq4_191 : Jvm.Cond.selects "NoticeBoxesModel" ({ cls := "NoticeBoxesModel", name := "put", desc := "(IIII)I" } : Jvm.MethodName) ({ cls := "NoticeBoxesModel", name := "put", desc := "(IIII)I" } : Jvm.MethodName) ∈ wsA := List.mem_filter.mpr ⟨wt_4 (List.mem_of_getElem? (i := 191) rfl), rfl⟩
theorem wq4_192 : Jvm.Cond.code ({ cls := "NoticeBoxesModel", name := "put", desc := "(IIII)I" } : Jvm.MethodName) prog_13_method_58_code (5 : Nat) (Option.some Jvm.ClassFile.FieldType.int) ∈ wsA := List.mem_filter.mpr ⟨wt_4 (List.mem_of_getElem? (i := 192) rfl), rfl⟩
theorem wq4_193 : Jvm.Cond.methodLink "NoticeBoxesModel" (210 : Nat) ({ cls := "NoticeBoxesModel", name := "puts", desc := "(IIII)I" } : Jvm.MethodName) ∈ wsA := List.mem_filter.mpr ⟨wt_4 (List.mem_of_getElem? (i := 193) rfl), rfl⟩
theorem wq4_194 : Jvm.Cond.privateMethod ({ cls := "NoticeBoxesModel", name := "puts", desc := "(IIII)I" } : Jvm.MethodName) ∈ lw_tbl := wt_4 (List.mem_of_getElem? (i := 194) rfl)
theorem wq4_195 : Jvm.Cond.instanceMethod ({ cls := "NoticeBoxesModel", name := "puts", desc := "(IIII)I" } : Jvm.MethodName) ∈ wsA := List.mem_filter.mpr ⟨wt_4 (List.mem_of_getElem? (i := 195) rfl), rfl⟩
theorem wq4_196 : Jvm.Cond.code ({ cls := "NoticeBoxesModel", name := "puts", desc := "(IIII)I" } : Jvm.MethodName) prog_13_method_34_code (6 : Nat) (Option.some Jvm.ClassFile.FieldType.int) ∈ wsA := List.mem_filter.mpr ⟨wt_4 (List.mem_of_getElem? (i := 196) rfl), rfl⟩
theorem wq4_197 : Jvm.Cond.methodLink "NoticeBoxesModel" (151 : Nat) ({ cls := "NoticeBoxesModel", name := "logs", desc := "(II)V" } : Jvm.MethodName) ∈ wsA := List.mem_filter.mpr ⟨wt_4 (List.mem_of_getElem? (i := 197) rfl), rfl⟩
theorem wq4_198 : Jvm.Cond.privateMethod ({ cls := "NoticeBoxesModel", name := "logs", desc := "(II)V" } : Jvm.MethodName) ∈ lw_tbl := wt_4 (List.mem_of_getElem? (i := 198) rfl)
theorem wq4_199 : Jvm.Cond.instanceMethod ({ cls := "NoticeBoxesModel", name := "logs", desc := "(II)V" } : Jvm.MethodName) ∈ wsA := List.mem_filter.mpr ⟨wt_4 (List.mem_of_getElem? (i := 199) rfl), rfl⟩
theorem wq4_200 : Jvm.Cond.code ({ cls := "NoticeBoxesModel", name := "logs", desc := "(II)V" } : Jvm.MethodName) prog_13_method_32_code (4 : Nat) (Option.none : Option Jvm.ClassFile.FieldType) ∈ wsA := List.mem_filter.mpr ⟨wt_4 (List.mem_of_getElem? (i := 200) rfl), rfl⟩
theorem wq4_201 : Jvm.Cond.methodLink "NoticeBoxesModel" (154 : Nat) ({ cls := "NoticeBoxesModel", name := "waits", desc := "(II)V" } : Jvm.MethodName) ∈ wsA := List.mem_filter.mpr ⟨wt_4 (List.mem_of_getElem? (i := 201) rfl), rfl⟩
theorem wq4_202 : Jvm.Cond.privateMethod ({ cls := "NoticeBoxesModel", name := "waits", desc := "(II)V" } : Jvm.MethodName) ∈ lw_tbl := wt_4 (List.mem_of_getElem? (i := 202) rfl)
theorem wq4_203 : Jvm.Cond.instanceMethod ({ cls := "NoticeBoxesModel", name := "waits", desc := "(II)V" } : Jvm.MethodName) ∈ wsA := List.mem_filter.mpr ⟨wt_4 (List.mem_of_getElem? (i := 203) rfl), rfl⟩
theorem wq4_204 : Jvm.Cond.code ({ cls := "NoticeBoxesModel", name := "waits", desc := "(II)V" } : Jvm.MethodName) prog_13_method_33_code (4 : Nat) (Option.none : Option Jvm.ClassFile.FieldType) ∈ wsA := List.mem_filter.mpr ⟨wt_4 (List.mem_of_getElem? (i := 204) rfl), rfl⟩
theorem wq4_205 : Jvm.Cond.methodLink "NoticeBoxesModel" (157 : Nat) ({ cls := "NoticeBoxesModel", name := "bits", desc := "(I)I" } : Jvm.MethodName) ∈ wsA := List.mem_filter.mpr ⟨wt_4 (List.mem_of_getElem? (i := 205) rfl), rfl⟩
theorem wq4_206 : Jvm.Cond.static ({ cls := "NoticeBoxesModel", name := "bits", desc := "(I)I" } : Jvm.MethodName) ∈ wsA := List.mem_filter.mpr ⟨wt_4 (List.mem_of_getElem? (i := 206) rfl), rfl⟩
theorem wq4_207 : Jvm.Cond.code ({ cls := "NoticeBoxesModel", name := "bits", desc := "(I)I" } : Jvm.MethodName) prog_13_method_31_code (3 : Nat) (Option.some Jvm.ClassFile.FieldType.int) ∈ wsA := List.mem_filter.mpr ⟨wt_4 (List.mem_of_getElem? (i := 207) rfl), rfl⟩
theorem wq4_208 : Jvm.Cond.methodLink "NoticeBoxesLaw" (77 : Nat) ({ cls := "NoticeBoxesModel", name := "leave", desc := "(I)I" } : Jvm.MethodName) ∈ wsA := List.mem_filter.mpr ⟨wt_4 (List.mem_of_getElem? (i := 208) rfl), rfl⟩
theorem wq4_209 : Jvm.Cond.instanceMethod ({ cls := "NoticeBoxesModel", name := "leave", desc := "(I)I" } : Jvm.MethodName) ∈ wsA := List.mem_filter.mpr ⟨wt_4 (List.mem_of_getElem? (i := 209) rfl), rfl⟩
theorem wq4_210 : Jvm.Cond.selects "NoticeBoxesModel" ({ cls := "NoticeBoxesModel", name := "leave", desc := "(I)I" } : Jvm.MethodName) ({ cls := "NoticeBoxesModel", name := "leave", desc := "(I)I" } : Jvm.MethodName) ∈ wsA := List.mem_filter.mpr ⟨wt_4 (List.mem_of_getElem? (i := 210) rfl), rfl⟩
theorem wq4_211 : Jvm.Cond.code ({ cls := "NoticeBoxesModel", name := "leave", desc := "(I)I" } : Jvm.MethodName) prog_13_method_59_code (2 : Nat) (Option.some Jvm.ClassFile.FieldType.int) ∈ wsA := List.mem_filter.mpr ⟨wt_4 (List.mem_of_getElem? (i := 211) rfl), rfl⟩
theorem wq4_212 : Jvm.Cond.constant "NoticeBoxesModel" (214 : Nat) (-1000000003 : Int32) ∈ wsA := List.mem_filter.mpr ⟨wt_4 (List.mem_of_getElem? (i := 212) rfl), rfl⟩
theorem wq4_213 : Jvm.Cond.methodLink "NoticeBoxesLaw" (81 : Nat) ({ cls := "NoticeBoxesModel", name := "come", desc := "(II)I" } : Jvm.MethodName) ∈ wsA := List.mem_filter.mpr ⟨wt_4 (List.mem_of_getElem? (i := 213) rfl), rfl⟩
theorem wq4_214 : Jvm.Cond.instanceMethod ({ cls := "NoticeBoxesModel", name := "come", desc := "(II)I" } : Jvm.MethodName) ∈ wsA := List.mem_filter.mpr ⟨wt_4 (List.mem_of_getElem? (i := 214) rfl), rfl⟩
theorem wq4_215 : Jvm.Cond.selects "NoticeBoxesModel" ({ cls := "NoticeBoxesModel", name := "come", desc := "(II)I" } : Jvm.MethodName) ({ cls := "NoticeBoxesModel", name := "come", desc := "(II)I" } : Jvm.MethodName) ∈ wsA := List.mem_filter.mpr ⟨wt_4 (List.mem_of_getElem? (i := 215) rfl), rfl⟩
theorem wq4_216 : Jvm.Cond.code ({ cls := "NoticeBoxesModel", name := "come", desc := "(II)I" } : Jvm.MethodName) prog_13_method_60_code (5 : Nat) (Option.some Jvm.ClassFile.FieldType.int) ∈ wsA := List.mem_filter.mpr ⟨wt_4 (List.mem_of_getElem? (i := 216) rfl), rfl⟩
theorem wq4_217 : Jvm.Cond.methodLink "NoticeBoxesLaw" (86 : Nat) ({ cls := "NoticeBoxesModel", name := "part", desc := "()I" } : Jvm.MethodName) ∈ wsA := List.mem_filter.mpr ⟨wt_4 (List.mem_of_getElem? (i := 217) rfl), rfl⟩
theorem wq4_218 : Jvm.Cond.instanceMethod ({ cls := "NoticeBoxesModel", name := "part", desc := "()I" } : Jvm.MethodName) ∈ wsA := List.mem_filter.mpr ⟨wt_4 (List.mem_of_getElem? (i := 218) rfl), rfl⟩
theorem wq4_219 : Jvm.Cond.selects "NoticeBoxesModel" ({ cls := "NoticeBoxesModel", name := "part", desc := "()I" } : Jvm.MethodName) ({ cls := "NoticeBoxesModel", name := "part", desc := "()I" } : Jvm.MethodName) ∈ wsA := List.mem_filter.mpr ⟨wt_4 (List.mem_of_getElem? (i := 219) rfl), rfl⟩
theorem wq4_220 : Jvm.Cond.code ({ cls := "NoticeBoxesModel", name := "part", desc := "()I" } : Jvm.MethodName) prog_13_method_61_code (2 : Nat) (Option.some Jvm.ClassFile.FieldType.int) ∈ wsA := List.mem_filter.mpr ⟨wt_4 (List.mem_of_getElem? (i := 220) rfl), rfl⟩
theorem wq4_221 : Jvm.Cond.methodLink "NoticeBoxesLaw" (90 : Nat) ({ cls := "NoticeBoxesModel", name := "drift", desc := "(I)I" } : Jvm.MethodName) ∈ wsA := List.mem_filter.mpr ⟨wt_4 (List.mem_of_getElem? (i := 221) rfl), rfl⟩
theorem wq4_222 : Jvm.Cond.instanceMethod ({ cls := "NoticeBoxesModel", name := "drift", desc := "(I)I" } : Jvm.MethodName) ∈ wsA := List.mem_filter.mpr ⟨wt_4 (List.mem_of_getElem? (i := 222) rfl), rfl⟩
theorem wq4_223 : Jvm.Cond.selects "NoticeBoxesModel" ({ cls := "NoticeBoxesModel", name := "drift", desc := "(I)I" } : Jvm.MethodName) ({ cls := "NoticeBoxesModel", name := "drift", desc := "(I)I" } : Jvm.MethodName) ∈ wsA := List.mem_filter.mpr ⟨wt_4 (List.mem_of_getElem? (i := 223) rfl), rfl⟩
theorem wq4_224 : Jvm.Cond.code ({ cls := "NoticeBoxesModel", name := "drift", desc := "(I)I" } : Jvm.MethodName) prog_13_method_63_code (7 : Nat) (Option.some Jvm.ClassFile.FieldType.int) ∈ wsA := List.mem_filter.mpr ⟨wt_4 (List.mem_of_getElem? (i := 224) rfl), rfl⟩
theorem wq4_225 : Jvm.Cond.methodLink "NoticeBoxesModel" (222 : Nat) ({ cls := "NoticeBoxesModel", name := "draws", desc := "(I)I" } : Jvm.MethodName) ∈ wsA := List.mem_filter.mpr ⟨wt_4 (List.mem_of_getElem? (i := 225) rfl), rfl⟩
theorem wq4_226 : Jvm.Cond.privateMethod ({ cls := "NoticeBoxesModel", name := "draws", desc := "(I)I" } : Jvm.MethodName) ∈ lw_tbl := wt_4 (List.mem_of_getElem? (i := 226) rfl)
theorem wq4_227 : Jvm.Cond.instanceMethod ({ cls := "NoticeBoxesModel", name := "draws", desc := "(I)I" } : Jvm.MethodName) ∈ wsA := List.mem_filter.mpr ⟨wt_4 (List.mem_of_getElem? (i := 227) rfl), rfl⟩
theorem wq4_228 : Jvm.Cond.code ({ cls := "NoticeBoxesModel", name := "draws", desc := "(I)I" } : Jvm.MethodName) prog_13_method_62_code (2 : Nat) (Option.some Jvm.ClassFile.FieldType.int) ∈ wsA := List.mem_filter.mpr ⟨wt_4 (List.mem_of_getElem? (i := 228) rfl), rfl⟩
theorem wq4_229 : Jvm.Cond.constantLong "NoticeBoxesModel" (215 : Nat) (1103515245 : Int64) ∈ wsA := List.mem_filter.mpr ⟨wt_4 (List.mem_of_getElem? (i := 229) rfl), rfl⟩
theorem wq4_230 : Jvm.Cond.constantLong "NoticeBoxesModel" (217 : Nat) (12345 : Int64) ∈ wsA := List.mem_filter.mpr ⟨wt_4 (List.mem_of_getElem? (i := 230) rfl), rfl⟩
theorem wq4_231 : Jvm.Cond.constantLong "NoticeBoxesModel" (219 : Nat) (2147483648 : Int64) ∈ wsA := List.mem_filter.mpr ⟨wt_4 (List.mem_of_getElem? (i := 231) rfl), rfl⟩
theorem wq4_232 : Jvm.Cond.constant "NoticeBoxesModel" (221 : Nat) (65536 : Int32) ∈ wsA := List.mem_filter.mpr ⟨wt_4 (List.mem_of_getElem? (i := 232) rfl), rfl⟩
theorem wq4_233 : Jvm.Cond.methodLink "NoticeBoxesLaw" (94 : Nat) ({ cls := "NoticeBoxesModel", name := "undo", desc := "(I)I" } : Jvm.MethodName) ∈ wsA := List.mem_filter.mpr ⟨wt_4 (List.mem_of_getElem? (i := 233) rfl), rfl⟩
theorem wq4_234 : Jvm.Cond.instanceMethod ({ cls := "NoticeBoxesModel", name := "undo", desc := "(I)I" } : Jvm.MethodName) ∈ wsA := List.mem_filter.mpr ⟨wt_4 (List.mem_of_getElem? (i := 234) rfl), rfl⟩
theorem wq4_235 : Jvm.Cond.selects "NoticeBoxesModel" ({ cls := "NoticeBoxesModel", name := "undo", desc := "(I)I" } : Jvm.MethodName) ({ cls := "NoticeBoxesModel", name := "undo", desc := "(I)I" } : Jvm.MethodName) ∈ wsA := List.mem_filter.mpr ⟨wt_4 (List.mem_of_getElem? (i := 235) rfl), rfl⟩
theorem wq4_236 : Jvm.Cond.code ({ cls := "NoticeBoxesModel", name := "undo", desc := "(I)I" } : Jvm.MethodName) prog_13_method_64_code (3 : Nat) (Option.some Jvm.ClassFile.FieldType.int) ∈ wsA := List.mem_filter.mpr ⟨wt_4 (List.mem_of_getElem? (i := 236) rfl), rfl⟩
theorem wq4_237 : Jvm.Cond.methodLink "NoticeBoxesLaw" (98 : Nat) ({ cls := "NoticeBoxesModel", name := "write", desc := "(II)I" } : Jvm.MethodName) ∈ wsA := List.mem_filter.mpr ⟨wt_4 (List.mem_of_getElem? (i := 237) rfl), rfl⟩
theorem wq4_238 : Jvm.Cond.instanceMethod ({ cls := "NoticeBoxesModel", name := "write", desc := "(II)I" } : Jvm.MethodName) ∈ wsA := List.mem_filter.mpr ⟨wt_4 (List.mem_of_getElem? (i := 238) rfl), rfl⟩
theorem wq4_239 : Jvm.Cond.selects "NoticeBoxesModel" ({ cls := "NoticeBoxesModel", name := "write", desc := "(II)I" } : Jvm.MethodName) ({ cls := "NoticeBoxesModel", name := "write", desc := "(II)I" } : Jvm.MethodName) ∈ wsA := List.mem_filter.mpr ⟨wt_4 (List.mem_of_getElem? (i := 239) rfl), rfl⟩
theorem wq5_0 : Jvm.Cond.code ({ cls := "NoticeBoxesModel", name := "write", desc := "(II)I" } : Jvm.MethodName) prog_13_method_65_code (3 : Nat) (Option.some Jvm.ClassFile.FieldType.int) ∈ wsA := List.mem_filter.mpr ⟨wt_5 (List.mem_of_getElem? (i := 0) rfl), rfl⟩
theorem wq5_1 : Jvm.Cond.methodLink "NoticeBoxesLaw" (102 : Nat) ({ cls := "NoticeBoxesModel", name := "tear", desc := "()I" } : Jvm.MethodName) ∈ wsA := List.mem_filter.mpr ⟨wt_5 (List.mem_of_getElem? (i := 1) rfl), rfl⟩
theorem wq5_2 : Jvm.Cond.instanceMethod ({ cls := "NoticeBoxesModel", name := "tear", desc := "()I" } : Jvm.MethodName) ∈ wsA := List.mem_filter.mpr ⟨wt_5 (List.mem_of_getElem? (i := 2) rfl), rfl⟩
theorem wq5_3 : Jvm.Cond.selects "NoticeBoxesModel" ({ cls := "NoticeBoxesModel", name := "tear", desc := "()I" } : Jvm.MethodName) ({ cls := "NoticeBoxesModel", name := "tear", desc := "()I" } : Jvm.MethodName) ∈ wsA := List.mem_filter.mpr ⟨wt_5 (List.mem_of_getElem? (i := 3) rfl), rfl⟩
theorem wq5_4 : Jvm.Cond.code ({ cls := "NoticeBoxesModel", name := "tear", desc := "()I" } : Jvm.MethodName) prog_13_method_66_code (2 : Nat) (Option.some Jvm.ClassFile.FieldType.int) ∈ wsA := List.mem_filter.mpr ⟨wt_5 (List.mem_of_getElem? (i := 4) rfl), rfl⟩
theorem wq5_5 : Jvm.Cond.methodLink "NoticeBoxesLaw" (106 : Nat) ({ cls := "NoticeBoxesModel", name := "seed", desc := "(I)I" } : Jvm.MethodName) ∈ wsA := List.mem_filter.mpr ⟨wt_5 (List.mem_of_getElem? (i := 5) rfl), rfl⟩
theorem wq5_6 : Jvm.Cond.instanceMethod ({ cls := "NoticeBoxesModel", name := "seed", desc := "(I)I" } : Jvm.MethodName) ∈ wsA := List.mem_filter.mpr ⟨wt_5 (List.mem_of_getElem? (i := 6) rfl), rfl⟩
theorem wq5_7 : Jvm.Cond.selects "NoticeBoxesModel" ({ cls := "NoticeBoxesModel", name := "seed", desc := "(I)I" } : Jvm.MethodName) ({ cls := "NoticeBoxesModel", name := "seed", desc := "(I)I" } : Jvm.MethodName) ∈ wsA := List.mem_filter.mpr ⟨wt_5 (List.mem_of_getElem? (i := 7) rfl), rfl⟩
theorem wq5_8 : Jvm.Cond.code ({ cls := "NoticeBoxesModel", name := "seed", desc := "(I)I" } : Jvm.MethodName) prog_13_method_67_code (3 : Nat) (Option.some Jvm.ClassFile.FieldType.int) ∈ wsA := List.mem_filter.mpr ⟨wt_5 (List.mem_of_getElem? (i := 8) rfl), rfl⟩
theorem wq5_9 : Jvm.Cond.methodLink "NoticeBoxesLaw" (110 : Nat) ({ cls := "NoticeBoxesModel", name := "keep", desc := "(I)I" } : Jvm.MethodName) ∈ wsA := List.mem_filter.mpr ⟨wt_5 (List.mem_of_getElem? (i := 9) rfl), rfl⟩
theorem wq5_10 : Jvm.Cond.instanceMethod ({ cls := "NoticeBoxesModel", name := "keep", desc := "(I)I" } : Jvm.MethodName) ∈ wsA := List.mem_filter.mpr ⟨wt_5 (List.mem_of_getElem? (i := 10) rfl), rfl⟩
theorem wq5_11 : Jvm.Cond.selects "NoticeBoxesModel" ({ cls := "NoticeBoxesModel", name := "keep", desc := "(I)I" } : Jvm.MethodName) ({ cls := "NoticeBoxesModel", name := "keep", desc := "(I)I" } : Jvm.MethodName) ∈ wsA := List.mem_filter.mpr ⟨wt_5 (List.mem_of_getElem? (i := 11) rfl), rfl⟩
theorem wq5_12 : Jvm.Cond.code ({ cls := "NoticeBoxesModel", name := "keep", desc := "(I)I" } : Jvm.MethodName) prog_13_method_68_code (3 : Nat) (Option.some Jvm.ClassFile.FieldType.int) ∈ wsA := List.mem_filter.mpr ⟨wt_5 (List.mem_of_getElem? (i := 12) rfl), rfl⟩
theorem wq5_13 : Jvm.Cond.methodLink "NoticeBoxesLaw" (114 : Nat) ({ cls := "NoticeBoxesModel", name := "goBack", desc := "(I)I" } : Jvm.MethodName) ∈ wsA := List.mem_filter.mpr ⟨wt_5 (List.mem_of_getElem? (i := 13) rfl), rfl⟩
theorem wq5_14 : Jvm.Cond.instanceMethod ({ cls := "NoticeBoxesModel", name := "goBack", desc := "(I)I" } : Jvm.MethodName) ∈ wsA := List.mem_filter.mpr ⟨wt_5 (List.mem_of_getElem? (i := 14) rfl), rfl⟩
theorem wq5_15 : Jvm.Cond.selects "NoticeBoxesModel" ({ cls := "NoticeBoxesModel", name := "goBack", desc := "(I)I" } : Jvm.MethodName) ({ cls := "NoticeBoxesModel", name := "goBack", desc := "(I)I" } : Jvm.MethodName) ∈ wsA := List.mem_filter.mpr ⟨wt_5 (List.mem_of_getElem? (i := 15) rfl), rfl⟩
theorem wq5_16 : Jvm.Cond.code ({ cls := "NoticeBoxesModel", name := "goBack", desc := "(I)I" } : Jvm.MethodName) prog_13_method_69_code (3 : Nat) (Option.some Jvm.ClassFile.FieldType.int) ∈ wsA := List.mem_filter.mpr ⟨wt_5 (List.mem_of_getElem? (i := 16) rfl), rfl⟩
theorem wp1_0 : Jvm.Cond.selects "NoticeBoxes$Tellings" ({ cls := "NoticeBoxes$Tellings", name := "gather", desc := "(LNoticeBoxes$State;II)V" } : Jvm.MethodName) ({ cls := "NoticeBoxes$Tellings", name := "gather", desc := "(LNoticeBoxes$State;II)V" } : Jvm.MethodName) ∈ wsA := List.mem_filter.mpr ⟨wpv_1 (List.mem_of_getElem? (i := 0) rfl), rfl⟩
theorem wp1_1 : Jvm.Cond.selects "NoticeBoxes$BoxList" ({ cls := "NoticeBoxes$BoxList", name := "removeCoveredBy", desc := "(I)V" } : Jvm.MethodName) ({ cls := "NoticeBoxes$BoxList", name := "removeCoveredBy", desc := "(I)V" } : Jvm.MethodName) ∈ wsA := List.mem_filter.mpr ⟨wpv_1 (List.mem_of_getElem? (i := 1) rfl), rfl⟩
theorem wp1_2 : Jvm.Cond.selects "NoticeBoxes$BoxList" ({ cls := "NoticeBoxes$BoxList", name := "insert", desc := "(I)V" } : Jvm.MethodName) ({ cls := "NoticeBoxes$BoxList", name := "insert", desc := "(I)V" } : Jvm.MethodName) ∈ wsA := List.mem_filter.mpr ⟨wpv_1 (List.mem_of_getElem? (i := 2) rfl), rfl⟩
theorem wp1_3 : Jvm.Cond.selects "NoticeBoxes$Journey" ({ cls := "NoticeBoxes$Journey", name := "goOn", desc := "(LNoticeBoxes$State;LNoticeBoxes$Tellings;II)Z" } : Jvm.MethodName) ({ cls := "NoticeBoxes$Journey", name := "goOn", desc := "(LNoticeBoxes$State;LNoticeBoxes$Tellings;II)Z" } : Jvm.MethodName) ∈ wsA := List.mem_filter.mpr ⟨wpv_1 (List.mem_of_getElem? (i := 3) rfl), rfl⟩
theorem wp1_4 : Jvm.Cond.selects "NoticeBoxes" ({ cls := "NoticeBoxes", name := "deliver", desc := "(II)I" } : Jvm.MethodName) ({ cls := "NoticeBoxes", name := "deliver", desc := "(II)I" } : Jvm.MethodName) ∈ wsA := List.mem_filter.mpr ⟨wpv_1 (List.mem_of_getElem? (i := 4) rfl), rfl⟩
theorem wp1_5 : Jvm.Cond.selects "NoticeBoxes$Client" ({ cls := "NoticeBoxes$Client", name := "enter", desc := "(I)V" } : Jvm.MethodName) ({ cls := "NoticeBoxes$Client", name := "enter", desc := "(I)V" } : Jvm.MethodName) ∈ wsA := List.mem_filter.mpr ⟨wpv_1 (List.mem_of_getElem? (i := 5) rfl), rfl⟩
theorem wp1_6 : Jvm.Cond.selects "NoticeBoxes$Client" ({ cls := "NoticeBoxes$Client", name := "store", desc := "(I)V" } : Jvm.MethodName) ({ cls := "NoticeBoxes$Client", name := "store", desc := "(I)V" } : Jvm.MethodName) ∈ wsA := List.mem_filter.mpr ⟨wpv_1 (List.mem_of_getElem? (i := 6) rfl), rfl⟩
theorem wp1_7 : Jvm.Cond.selects "NoticeBoxes$Client" ({ cls := "NoticeBoxes$Client", name := "loseFirst", desc := "()V" } : Jvm.MethodName) ({ cls := "NoticeBoxes$Client", name := "loseFirst", desc := "()V" } : Jvm.MethodName) ∈ wsA := List.mem_filter.mpr ⟨wpv_1 (List.mem_of_getElem? (i := 7) rfl), rfl⟩
theorem wp1_8 : Jvm.Cond.selects "NoticeBoxesModel" ({ cls := "NoticeBoxesModel", name := "allTold", desc := "()I" } : Jvm.MethodName) ({ cls := "NoticeBoxesModel", name := "allTold", desc := "()I" } : Jvm.MethodName) ∈ wsA := List.mem_filter.mpr ⟨wpv_1 (List.mem_of_getElem? (i := 8) rfl), rfl⟩
theorem wp1_9 : Jvm.Cond.selects "NoticeBoxesModel" ({ cls := "NoticeBoxesModel", name := "lays", desc := "()V" } : Jvm.MethodName) ({ cls := "NoticeBoxesModel", name := "lays", desc := "()V" } : Jvm.MethodName) ∈ wsA := List.mem_filter.mpr ⟨wpv_1 (List.mem_of_getElem? (i := 9) rfl), rfl⟩
theorem wp1_10 : Jvm.Cond.selects "NoticeBoxesModel" ({ cls := "NoticeBoxesModel", name := "laysLink", desc := "(II)V" } : Jvm.MethodName) ({ cls := "NoticeBoxesModel", name := "laysLink", desc := "(II)V" } : Jvm.MethodName) ∈ wsA := List.mem_filter.mpr ⟨wpv_1 (List.mem_of_getElem? (i := 10) rfl), rfl⟩
theorem wp1_11 : Jvm.Cond.selects "NoticeBoxesModel" ({ cls := "NoticeBoxesModel", name := "gathersWishes", desc := "(I)V" } : Jvm.MethodName) ({ cls := "NoticeBoxesModel", name := "gathersWishes", desc := "(I)V" } : Jvm.MethodName) ∈ wsA := List.mem_filter.mpr ⟨wpv_1 (List.mem_of_getElem? (i := 11) rfl), rfl⟩
theorem wp1_12 : Jvm.Cond.selects "NoticeBoxesModel" ({ cls := "NoticeBoxesModel", name := "wish", desc := "(II)I" } : Jvm.MethodName) ({ cls := "NoticeBoxesModel", name := "wish", desc := "(II)I" } : Jvm.MethodName) ∈ wsA := List.mem_filter.mpr ⟨wpv_1 (List.mem_of_getElem? (i := 12) rfl), rfl⟩
theorem wp1_13 : Jvm.Cond.selects "NoticeBoxesModel" ({ cls := "NoticeBoxesModel", name := "of", desc := "(II)I" } : Jvm.MethodName) ({ cls := "NoticeBoxesModel", name := "of", desc := "(II)I" } : Jvm.MethodName) ∈ wsA := List.mem_filter.mpr ⟨wpv_1 (List.mem_of_getElem? (i := 13) rfl), rfl⟩
theorem wp1_14 : Jvm.Cond.selects "NoticeBoxesModel" ({ cls := "NoticeBoxesModel", name := "comes", desc := "()V" } : Jvm.MethodName) ({ cls := "NoticeBoxesModel", name := "comes", desc := "()V" } : Jvm.MethodName) ∈ wsA := List.mem_filter.mpr ⟨wpv_1 (List.mem_of_getElem? (i := 14) rfl), rfl⟩
theorem wp1_15 : Jvm.Cond.selects "NoticeBoxesModel" ({ cls := "NoticeBoxesModel", name := "covers", desc := "(II)Z" } : Jvm.MethodName) ({ cls := "NoticeBoxesModel", name := "covers", desc := "(II)Z" } : Jvm.MethodName) ∈ wsA := List.mem_filter.mpr ⟨wpv_1 (List.mem_of_getElem? (i := 15) rfl), rfl⟩
theorem wp2_0 : Jvm.Cond.selects "NoticeBoxesModel" ({ cls := "NoticeBoxesModel", name := "at", desc := "(II)I" } : Jvm.MethodName) ({ cls := "NoticeBoxesModel", name := "at", desc := "(II)I" } : Jvm.MethodName) ∈ wsA := List.mem_filter.mpr ⟨wpv_2 (List.mem_of_getElem? (i := 0) rfl), rfl⟩
theorem wp2_1 : Jvm.Cond.selects "NoticeBoxesModel" ({ cls := "NoticeBoxesModel", name := "copies", desc := "(II)V" } : Jvm.MethodName) ({ cls := "NoticeBoxesModel", name := "copies", desc := "(II)V" } : Jvm.MethodName) ∈ wsA := List.mem_filter.mpr ⟨wpv_2 (List.mem_of_getElem? (i := 1) rfl), rfl⟩
theorem wp2_2 : Jvm.Cond.selects "NoticeBoxesModel" ({ cls := "NoticeBoxesModel", name := "settles", desc := "()V" } : Jvm.MethodName) ({ cls := "NoticeBoxesModel", name := "settles", desc := "()V" } : Jvm.MethodName) ∈ wsA := List.mem_filter.mpr ⟨wpv_2 (List.mem_of_getElem? (i := 2) rfl), rfl⟩
theorem wp2_3 : Jvm.Cond.selects "NoticeBoxesModel" ({ cls := "NoticeBoxesModel", name := "order", desc := "(II)I" } : Jvm.MethodName) ({ cls := "NoticeBoxesModel", name := "order", desc := "(II)I" } : Jvm.MethodName) ∈ wsA := List.mem_filter.mpr ⟨wpv_2 (List.mem_of_getElem? (i := 3) rfl), rfl⟩
theorem wp2_4 : Jvm.Cond.selects "NoticeBoxesModel" ({ cls := "NoticeBoxesModel", name := "areNeighbours", desc := "(II)Z" } : Jvm.MethodName) ({ cls := "NoticeBoxesModel", name := "areNeighbours", desc := "(II)Z" } : Jvm.MethodName) ∈ wsA := List.mem_filter.mpr ⟨wpv_2 (List.mem_of_getElem? (i := 4) rfl), rfl⟩
theorem wp2_5 : Jvm.Cond.selects "NoticeBoxesModel" ({ cls := "NoticeBoxesModel", name := "isBroker", desc := "(I)Z" } : Jvm.MethodName) ({ cls := "NoticeBoxesModel", name := "isBroker", desc := "(I)Z" } : Jvm.MethodName) ∈ wsA := List.mem_filter.mpr ⟨wpv_2 (List.mem_of_getElem? (i := 5) rfl), rfl⟩
theorem wp2_6 : Jvm.Cond.selects "NoticeBoxesModel" ({ cls := "NoticeBoxesModel", name := "linkOf", desc := "(II)I" } : Jvm.MethodName) ({ cls := "NoticeBoxesModel", name := "linkOf", desc := "(II)I" } : Jvm.MethodName) ∈ wsA := List.mem_filter.mpr ⟨wpv_2 (List.mem_of_getElem? (i := 6) rfl), rfl⟩
theorem wp2_7 : Jvm.Cond.selects "NoticeBoxesModel" ({ cls := "NoticeBoxesModel", name := "gathersLink", desc := "(I)V" } : Jvm.MethodName) ({ cls := "NoticeBoxesModel", name := "gathersLink", desc := "(I)V" } : Jvm.MethodName) ∈ wsA := List.mem_filter.mpr ⟨wpv_2 (List.mem_of_getElem? (i := 7) rfl), rfl⟩
theorem wp2_8 : Jvm.Cond.selects "NoticeBoxesModel" ({ cls := "NoticeBoxesModel", name := "joins", desc := "()V" } : Jvm.MethodName) ({ cls := "NoticeBoxesModel", name := "joins", desc := "()V" } : Jvm.MethodName) ∈ wsA := List.mem_filter.mpr ⟨wpv_2 (List.mem_of_getElem? (i := 8) rfl), rfl⟩
theorem wp2_9 : Jvm.Cond.selects "NoticeBoxesModel" ({ cls := "NoticeBoxesModel", name := "wasteOf", desc := "(II)I" } : Jvm.MethodName) ({ cls := "NoticeBoxesModel", name := "wasteOf", desc := "(II)I" } : Jvm.MethodName) ∈ wsA := List.mem_filter.mpr ⟨wpv_2 (List.mem_of_getElem? (i := 9) rfl), rfl⟩
theorem wp2_10 : Jvm.Cond.selects "NoticeBoxesModel" ({ cls := "NoticeBoxesModel", name := "sizeOf", desc := "(I)I" } : Jvm.MethodName) ({ cls := "NoticeBoxesModel", name := "sizeOf", desc := "(I)I" } : Jvm.MethodName) ∈ wsA := List.mem_filter.mpr ⟨wpv_2 (List.mem_of_getElem? (i := 10) rfl), rfl⟩
theorem wp2_11 : Jvm.Cond.selects "NoticeBoxesModel" ({ cls := "NoticeBoxesModel", name := "shared", desc := "(II)I" } : Jvm.MethodName) ({ cls := "NoticeBoxesModel", name := "shared", desc := "(II)I" } : Jvm.MethodName) ∈ wsA := List.mem_filter.mpr ⟨wpv_2 (List.mem_of_getElem? (i := 11) rfl), rfl⟩
theorem wp2_12 : Jvm.Cond.selects "NoticeBoxesModel" ({ cls := "NoticeBoxesModel", name := "wrong", desc := "()I" } : Jvm.MethodName) ({ cls := "NoticeBoxesModel", name := "wrong", desc := "()I" } : Jvm.MethodName) ∈ wsA := List.mem_filter.mpr ⟨wpv_2 (List.mem_of_getElem? (i := 12) rfl), rfl⟩
theorem wp2_13 : Jvm.Cond.selects "NoticeBoxesModel" ({ cls := "NoticeBoxesModel", name := "isClient", desc := "(I)Z" } : Jvm.MethodName) ({ cls := "NoticeBoxesModel", name := "isClient", desc := "(I)Z" } : Jvm.MethodName) ∈ wsA := List.mem_filter.mpr ⟨wpv_2 (List.mem_of_getElem? (i := 13) rfl), rfl⟩
theorem wp2_14 : Jvm.Cond.selects "NoticeBoxesModel" ({ cls := "NoticeBoxesModel", name := "isWish", desc := "(I)Z" } : Jvm.MethodName) ({ cls := "NoticeBoxesModel", name := "isWish", desc := "(I)Z" } : Jvm.MethodName) ∈ wsA := List.mem_filter.mpr ⟨wpv_2 (List.mem_of_getElem? (i := 14) rfl), rfl⟩
theorem wp2_15 : Jvm.Cond.selects "NoticeBoxesModel" ({ cls := "NoticeBoxesModel", name := "takesWish", desc := "(II)V" } : Jvm.MethodName) ({ cls := "NoticeBoxesModel", name := "takesWish", desc := "(II)V" } : Jvm.MethodName) ∈ wsA := List.mem_filter.mpr ⟨wpv_2 (List.mem_of_getElem? (i := 15) rfl), rfl⟩
theorem wp3_0 : Jvm.Cond.selects "NoticeBoxesModel" ({ cls := "NoticeBoxesModel", name := "covered", desc := "(I)I" } : Jvm.MethodName) ({ cls := "NoticeBoxesModel", name := "covered", desc := "(I)I" } : Jvm.MethodName) ∈ wsA := List.mem_filter.mpr ⟨wpv_3 (List.mem_of_getElem? (i := 0) rfl), rfl⟩
theorem wp3_1 : Jvm.Cond.selects "NoticeBoxesModel" ({ cls := "NoticeBoxesModel", name := "isWishBox", desc := "()Z" } : Jvm.MethodName) ({ cls := "NoticeBoxesModel", name := "isWishBox", desc := "()Z" } : Jvm.MethodName) ∈ wsA := List.mem_filter.mpr ⟨wpv_3 (List.mem_of_getElem? (i := 1) rfl), rfl⟩
theorem wp3_2 : Jvm.Cond.selects "NoticeBoxesModel" ({ cls := "NoticeBoxesModel", name := "walks", desc := "(IIII)V" } : Jvm.MethodName) ({ cls := "NoticeBoxesModel", name := "walks", desc := "(IIII)V" } : Jvm.MethodName) ∈ wsA := List.mem_filter.mpr ⟨wpv_3 (List.mem_of_getElem? (i := 2) rfl), rfl⟩
theorem wp3_3 : Jvm.Cond.selects "NoticeBoxesModel" ({ cls := "NoticeBoxesModel", name := "goes", desc := "(IIIII)Z" } : Jvm.MethodName) ({ cls := "NoticeBoxesModel", name := "goes", desc := "(IIIII)Z" } : Jvm.MethodName) ∈ wsA := List.mem_filter.mpr ⟨wpv_3 (List.mem_of_getElem? (i := 3) rfl), rfl⟩
theorem wp3_4 : Jvm.Cond.selects "NoticeBoxesModel" ({ cls := "NoticeBoxesModel", name := "isWished", desc := "(IIII)Z" } : Jvm.MethodName) ({ cls := "NoticeBoxesModel", name := "isWished", desc := "(IIII)Z" } : Jvm.MethodName) ∈ wsA := List.mem_filter.mpr ⟨wpv_3 (List.mem_of_getElem? (i := 4) rfl), rfl⟩
theorem wp3_5 : Jvm.Cond.selects "NoticeBoxesModel" ({ cls := "NoticeBoxesModel", name := "deed", desc := "()V" } : Jvm.MethodName) ({ cls := "NoticeBoxesModel", name := "deed", desc := "()V" } : Jvm.MethodName) ∈ wsA := List.mem_filter.mpr ⟨wpv_3 (List.mem_of_getElem? (i := 5) rfl), rfl⟩
theorem wp3_6 : Jvm.Cond.selects "NoticeBoxesModel" ({ cls := "NoticeBoxesModel", name := "sets", desc := "(III)V" } : Jvm.MethodName) ({ cls := "NoticeBoxesModel", name := "sets", desc := "(III)V" } : Jvm.MethodName) ∈ wsA := List.mem_filter.mpr ⟨wpv_3 (List.mem_of_getElem? (i := 6) rfl), rfl⟩
theorem wp3_7 : Jvm.Cond.selects "NoticeBoxesModel" ({ cls := "NoticeBoxesModel", name := "bounds", desc := "(IIII)V" } : Jvm.MethodName) ({ cls := "NoticeBoxesModel", name := "bounds", desc := "(IIII)V" } : Jvm.MethodName) ∈ wsA := List.mem_filter.mpr ⟨wpv_3 (List.mem_of_getElem? (i := 7) rfl), rfl⟩
theorem wp3_8 : Jvm.Cond.selects "NoticeBoxesModel" ({ cls := "NoticeBoxesModel", name := "dropsWish", desc := "(I)V" } : Jvm.MethodName) ({ cls := "NoticeBoxesModel", name := "dropsWish", desc := "(I)V" } : Jvm.MethodName) ∈ wsA := List.mem_filter.mpr ⟨wpv_3 (List.mem_of_getElem? (i := 8) rfl), rfl⟩
theorem wp3_9 : Jvm.Cond.selects "NoticeBoxesModel" ({ cls := "NoticeBoxesModel", name := "puts", desc := "(IIII)I" } : Jvm.MethodName) ({ cls := "NoticeBoxesModel", name := "puts", desc := "(IIII)I" } : Jvm.MethodName) ∈ wsA := List.mem_filter.mpr ⟨wpv_3 (List.mem_of_getElem? (i := 9) rfl), rfl⟩
theorem wp3_10 : Jvm.Cond.selects "NoticeBoxesModel" ({ cls := "NoticeBoxesModel", name := "logs", desc := "(II)V" } : Jvm.MethodName) ({ cls := "NoticeBoxesModel", name := "logs", desc := "(II)V" } : Jvm.MethodName) ∈ wsA := List.mem_filter.mpr ⟨wpv_3 (List.mem_of_getElem? (i := 10) rfl), rfl⟩
theorem wp3_11 : Jvm.Cond.selects "NoticeBoxesModel" ({ cls := "NoticeBoxesModel", name := "waits", desc := "(II)V" } : Jvm.MethodName) ({ cls := "NoticeBoxesModel", name := "waits", desc := "(II)V" } : Jvm.MethodName) ∈ wsA := List.mem_filter.mpr ⟨wpv_3 (List.mem_of_getElem? (i := 11) rfl), rfl⟩
theorem wp3_12 : Jvm.Cond.selects "NoticeBoxesModel" ({ cls := "NoticeBoxesModel", name := "draws", desc := "(I)I" } : Jvm.MethodName) ({ cls := "NoticeBoxesModel", name := "draws", desc := "(I)I" } : Jvm.MethodName) ∈ wsA := List.mem_filter.mpr ⟨wpv_3 (List.mem_of_getElem? (i := 12) rfl), rfl⟩
theorem wf0 : ∀ w ∈ u_ws RX0 TX0 3, w ∈ wsA := by
  intro w hw
  obtain ⟨k, hk, rfl⟩ := List.mem_map.mp hw
  have hk := List.mem_range.mp hk
  match k, hk with
  | 0, _ => exact wq1_212
  | 1, _ => exact wq1_214
  | 2, _ => exact wq1_216
theorem wf2 : ∀ w ∈ u_ws RX2 TX2 2, w ∈ wsA := by
  intro w hw
  obtain ⟨k, hk, rfl⟩ := List.mem_map.mp hw
  have hk := List.mem_range.mp hk
  match k, hk with
  | 0, _ => exact wq1_138
  | 1, _ => exact wq1_140
theorem wf3 : ∀ w ∈ u_ws RX3 TX3 7, w ∈ wsA := by
  intro w hw
  obtain ⟨k, hk, rfl⟩ := List.mem_map.mp hw
  have hk := List.mem_range.mp hk
  match k, hk with
  | 0, _ => exact wq1_51
  | 1, _ => exact wq1_53
  | 2, _ => exact wq1_55
  | 3, _ => exact wq1_57
  | 4, _ => exact wq1_59
  | 5, _ => exact wq1_61
  | 6, _ => exact wq1_63
theorem wf4 : ∀ w ∈ u_ws RX4 TX4 1, w ∈ wsA := by
  intro w hw
  obtain ⟨k, hk, rfl⟩ := List.mem_map.mp hw
  have hk := List.mem_range.mp hk
  match k, hk with
  | 0, _ => exact wq1_228
theorem wf5 : ∀ w ∈ u_ws RX5 TX5 3, w ∈ wsA := by
  intro w hw
  obtain ⟨k, hk, rfl⟩ := List.mem_map.mp hw
  have hk := List.mem_range.mp hk
  match k, hk with
  | 0, _ => exact wq2_4
  | 1, _ => exact wq2_6
  | 2, _ => exact wq2_8
theorem wf6 : ∀ w ∈ u_ws RX6 TX6 5, w ∈ wsA := by
  intro w hw
  obtain ⟨k, hk, rfl⟩ := List.mem_map.mp hw
  have hk := List.mem_range.mp hk
  match k, hk with
  | 0, _ => exact wq1_171
  | 1, _ => exact wq1_173
  | 2, _ => exact wq1_175
  | 3, _ => exact wq1_177
  | 4, _ => exact wq1_179
theorem wf7 : ∀ w ∈ u_ws RX7 TX7 3, w ∈ wsA := by
  intro w hw
  obtain ⟨k, hk, rfl⟩ := List.mem_map.mp hw
  have hk := List.mem_range.mp hk
  match k, hk with
  | 0, _ => exact wq1_195
  | 1, _ => exact wq1_197
  | 2, _ => exact wq1_199
theorem wf8 : ∀ w ∈ u_ws RX8 TX8 11, w ∈ wsA := by
  intro w hw
  obtain ⟨k, hk, rfl⟩ := List.mem_map.mp hw
  have hk := List.mem_range.mp hk
  match k, hk with
  | 0, _ => exact wq1_96
  | 1, _ => exact wq1_98
  | 2, _ => exact wq1_100
  | 3, _ => exact wq1_102
  | 4, _ => exact wq1_104
  | 5, _ => exact wq1_106
  | 6, _ => exact wq1_108
  | 7, _ => exact wq1_110
  | 8, _ => exact wq1_112
  | 9, _ => exact wq1_114
  | 10, _ => exact wq1_116
theorem wf9 : ∀ w ∈ u_ws RX9 TX9 3, w ∈ wsA := by
  intro w hw
  obtain ⟨k, hk, rfl⟩ := List.mem_map.mp hw
  have hk := List.mem_range.mp hk
  match k, hk with
  | 0, _ => exact wq1_146
  | 1, _ => exact wq1_148
  | 2, _ => exact wq1_150
theorem wf10 : ∀ w ∈ u_ws RX10 TX10 7, w ∈ wsA := by
  intro w hw
  obtain ⟨k, hk, rfl⟩ := List.mem_map.mp hw
  have hk := List.mem_range.mp hk
  match k, hk with
  | 0, _ => exact wq2_18
  | 1, _ => exact wq2_20
  | 2, _ => exact wq2_22
  | 3, _ => exact wq2_24
  | 4, _ => exact wq2_26
  | 5, _ => exact wq2_28
  | 6, _ => exact wq2_30
theorem wf11 : ∀ w ∈ u_ws RX11 TX11 19, w ∈ wsA := by
  intro w hw
  obtain ⟨k, hk, rfl⟩ := List.mem_map.mp hw
  have hk := List.mem_range.mp hk
  match k, hk with
  | 0, _ => exact wq3_187
  | 1, _ => exact wq3_189
  | 2, _ => exact wq3_191
  | 3, _ => exact wq3_193
  | 4, _ => exact wq3_195
  | 5, _ => exact wq3_197
  | 6, _ => exact wq3_199
  | 7, _ => exact wq3_201
  | 8, _ => exact wq3_203
  | 9, _ => exact wq3_205
  | 10, _ => exact wq3_207
  | 11, _ => exact wq3_209
  | 12, _ => exact wq3_211
  | 13, _ => exact wq3_213
  | 14, _ => exact wq3_215
  | 15, _ => exact wq3_217
  | 16, _ => exact wq3_219
  | 17, _ => exact wq3_221
  | 18, _ => exact wq3_223
  | k + 19, hk => exact absurd hk (by omega)
end
section
/-! ===== the abstract heap: what each address holds, and how many cells there are ===== -/
/-- a cell: an object (number of its class in vwCl, its fields), a row of ints or booleans (number of its type in hp_tys, length, contents), a row of references -/
abbrev hp_V : Type := (Nat × List Value) ⊕ ((Nat × Nat × (Nat → Int32)) ⊕ (Nat × Nat × (Nat → Option Nat)))
abbrev hp_H : Type := (Nat → Option hp_V) × Nat
abbrev hp_G : Type := va_G × (Nat → ClassId)
def hp_c (G : hp_G) (v : hp_V) : va_E := match v with
  | .inl o => .inr o
  | .inr (.inl x) => .inl (G.2 x.1, x.2.1, .inl x.2.2)
  | .inr (.inr x) => .inl (G.2 x.1, x.2.1, .inr (.inr (.inr (.inr x.2.2))))
def hp_tys (G : hp_G) : List (ClassId × FieldType) := [(G.2 0, .int), (G.2 1, .boolean), (G.2 2, .object RX2), (G.2 3, .object RX3), (G.2 4, .object RX5), (G.2 5, .object RX8)]
def hp_nest : List (String × Nat × MethodName × String) := [("NoticeBoxes$State", 34, ⟨"NoticeBoxes$Client", "<init>", "()V"⟩, "NoticeBoxes"), ("NoticeBoxes$Tellings", 20, ⟨"NoticeBoxes$BoxList", "<init>", "()V"⟩, "NoticeBoxes"), ("NoticeBoxes", 25, ⟨"NoticeBoxes$Journey", "<init>", "()V"⟩, "NoticeBoxes"), ("NoticeBoxes", 39, ⟨"NoticeBoxes$Book", "<init>", "()V"⟩, "NoticeBoxes"), ("NoticeBoxes", 46, ⟨"NoticeBoxes$Draws", "<init>", "()V"⟩, "NoticeBoxes"), ("NoticeBoxes", 57, ⟨"NoticeBoxes$Image", "<init>", "()V"⟩, "NoticeBoxes"), ("NoticeBoxes$State", 75, ⟨"NoticeBoxes", "holds", "(II)Z"⟩, "NoticeBoxes"), ("NoticeBoxes$Tellings", 56, ⟨"NoticeBoxes", "holds", "(II)Z"⟩, "NoticeBoxes"), ("NoticeBoxes$State", 60, ⟨"NoticeBoxes", "within", "(III)Z"⟩, "NoticeBoxes"), ("NoticeBoxes$Journey", 44, ⟨"NoticeBoxes", "holds", "(II)Z"⟩, "NoticeBoxes")]
def hp_over : List String := [RX2, RX3, RX5, RX8]
/-- what the tables say that no instruction changes -/
def hp_K (G : hp_G) (U : State) : Prop := va_K G.1 vwCl (hp_tys G) U ∧ (∀ q ∈ hp_nest, va_Nw (.methodLinkNest q.1 q.2.1 q.2.2.1 q.2.2.2) U) ∧ ∀ C ∈ hp_over, va_AO C U
theorem hp_K.warm {G : hp_G} {s U : State} (hW : s.WarmedH U.vm) (h : hp_K G s) : hp_K G U := ⟨va_K.moved hW.alike h.1, fun q hq => va_Nw.warmM hW (h.2.1 q hq), fun C hC => va_AO.moved hW.alike (h.2.2 C hC)⟩
/-- the machine's heap holds what the abstract one says; all of it from b on -/
def hp_B (G : hp_G) (b : Nat) (σ : hp_H) (H : Heap) : Prop := b ≤ σ.2 ∧ H.size = σ.2 ∧ ∀ (a : Nat) (v : hp_V), σ.1 a = some v → b ≤ a ∧ va_at G.1 vwCl (a, hp_c G v) H
def hp_R (G : hp_G) (b : Nat) (H0 : Heap) (σ : hp_H) (H : Heap) (locs : List Loc) : Prop := hp_B G b σ H ∧ va_S (fun q => b ≤ q) H0 H locs
abbrev hp_X (G : hp_G) (p : Program) (s : State) (m : MethodId) (c : Code) (args : Array Value) (cc : ByteArray) (nL : Nat) (own : String) : Prop := CallFix p m c cc nL s args wsA own ∧ hp_K G s
def hp_Pc (G : hp_G) (b : Nat) (as : List Value) (σ : hp_H) : Array Value → State → Prop := fun v U => v = as.toArray ∧ hp_B G b σ U.heap ∧ hp_K G U
def hp_Qc (G : hp_G) (b : Nat) (r : Option Value) (σ' : hp_H) : Array Value → State → Outcome → State → Prop := fun _ st o t => o = .returned r ∧ hp_B G b σ' t.heap ∧ va_F (fun q => b ≤ q) st t
theorem hp_blind {G : hp_G} {b : Nat} {as : List Value} {σ : hp_H} : FrameBlind (hp_Pc G b as σ) := fun a U g mk q => ⟨q.1, q.2.1, va_K.moved (u := U) (U := U.calling g mk a) (Vm.Alike.refl U.vm) q.2.2.1, fun w hw => va_Nw.same (u := U) (U := U.calling g mk a) rfl rfl (q.2.2.2.1 w hw), fun C hC => va_AO.moved (u := U) (U := U.calling g mk a) (Vm.Alike.refl U.vm) (q.2.2.2.2 C hC)⟩
/-! ===== the pure operations ===== -/
def hp_set (σ : hp_H) (a : Nat) (v : hp_V) : hp_H := (fun x => if x = a then some v else σ.1 x, σ.2)
def hp_add (σ : hp_H) (v : hp_V) : hp_H := (fun x => if x = σ.2 then some v else σ.1 x, σ.2 + 1)
def hp_is (σ : hp_H) (a ci : Nat) : Prop := ∃ fs, σ.1 a = some (.inl (ci, fs))
def hp_isb (σ : hp_H) (a ci : Nat) : Bool := match σ.1 a with
  | some (.inl x) => decide (x.1 = ci)
  | _ => false
/-- an instance method's body, at an object of its class -/
def hp_own {α : Type} (σ : hp_H) (a ci : Nat) (x : Option α) : Option α := if hp_isb σ a ci = true then x else none
def hp_b {α β : Type} (o : Option (α × hp_H)) (k : α → hp_H → Option β) : Option β := match o with
  | some x => k x.1 x.2
  | none => none
def hp_obj (σ : hp_H) (a ci : Nat) : Option (List Value) := match σ.1 a with
  | some (.inl x) => if x.1 = ci then some x.2 else none
  | _ => none
def hp_gI (σ : hp_H) (a ci k : Nat) : Option Int32 := (hp_obj σ a ci).bind fun fs => match fs[k]? with
  | some (.int x) => some x
  | _ => none
def hp_gR (σ : hp_H) (a ci k : Nat) : Option Nat := (hp_obj σ a ci).bind fun fs => match fs[k]? with
  | some (.ref x) => some x
  | _ => none
def hp_pV (σ : hp_H) (a ci k : Nat) (v : Value) : Option hp_H := (hp_obj σ a ci).bind fun fs => if k < fs.length then some (hp_set σ a (.inl (ci, fs.set k v))) else none
def hp_pI (σ : hp_H) (a ci k : Nat) (x : Int32) : Option hp_H := hp_pV σ a ci k (.int x)
def hp_pR (σ : hp_H) (a ci k : Nat) (q : Nat) : Option hp_H := hp_pV σ a ci k (.ref q)
def hp_pZ (σ : hp_H) (a ci k : Nat) (x : Int32) : Option hp_H := if x = 0 ∨ x = 1 then hp_pV σ a ci k (.int x) else none
def hp_row (σ : hp_H) (a t : Nat) : Option (Nat × (Nat → Int32)) := match σ.1 a with
  | some (.inr (.inl x)) => if x.1 = t then some x.2 else none
  | _ => none
def hp_rrow (σ : hp_H) (a t : Nat) : Option (Nat × (Nat → Option Nat)) := match σ.1 a with
  | some (.inr (.inr x)) => if x.1 = t then some x.2 else none
  | _ => none
def hp_aI (σ : hp_H) (a t : Nat) (i : Int32) : Option Int32 := (hp_row σ a t).bind fun x => if 0 ≤ i.toInt ∧ i.toInt < x.1 then some (x.2 i.toNatClampNeg) else none
def hp_sI (σ : hp_H) (a t : Nat) (i x : Int32) : Option hp_H := (hp_row σ a t).bind fun y => if 0 ≤ i.toInt ∧ i.toInt < y.1 then some (hp_set σ a (.inr (.inl (t, y.1, upd y.2 i.toNatClampNeg x)))) else none
def hp_sZ (σ : hp_H) (a t : Nat) (i x : Int32) : Option hp_H := if x = 0 ∨ x = 1 then hp_sI σ a t i x else none
def hp_aR (σ : hp_H) (a t : Nat) (i : Int32) : Option Nat := (hp_rrow σ a t).bind fun x => if 0 ≤ i.toInt ∧ i.toInt < x.1 then x.2 i.toNatClampNeg else none
def hp_sR (σ : hp_H) (a t ci : Nat) (i : Int32) (q : Nat) : Option hp_H := (hp_rrow σ a t).bind fun y => if (0 ≤ i.toInt ∧ i.toInt < y.1) ∧ hp_isb σ q ci = true then some (hp_set σ a (.inr (.inr (t, y.1, va_up y.2 i.toNatClampNeg (some q))))) else none
def hp_ln (σ : hp_H) (a t : Nat) : Option Int32 := (hp_row σ a t).bind fun x => some (Int32.ofNat x.1)
def hp_cp (σ : hp_H) (a0 : Nat) (sp : Int32) (a : Nat) (dp n : Int32) : Option hp_H := (hp_row σ a0 0).bind fun x => (hp_row σ a 0).bind fun y =>
  if (¬ sp < 0 ∧ ¬ dp < 0 ∧ ¬ n < 0) ∧ sp.toNatClampNeg + n.toNatClampNeg ≤ x.1 ∧ dp.toNatClampNeg + n.toNatClampNeg ≤ y.1 then some (hp_set σ a (.inr (.inl (0, y.1, va_cpy x.2 y.2 sp.toNatClampNeg dp.toNatClampNeg n.toNatClampNeg)))) else none
/-- a division's guard -/
def hp_nz {α : Type} (y : Int32) (x : Option α) : Option α := if y = 0 then none else x
def hp_nzl {α : Type} (y : Int64) (x : Option α) : Option α := if y = 0 then none else x
def hp_z {α : Type} (r : Int32) (x : Option α) : Option α := if r = 0 ∨ r = 1 then x else none
/-! ===== what an answer 'some' says ===== -/
theorem hp_isb_is {σ : hp_H} {a ci : Nat} (h : hp_isb σ a ci = true) : hp_is σ a ci := by
  unfold hp_isb at h
  split at h
  · rename_i x hx
    obtain ⟨c, fs⟩ := x
    have : c = ci := of_decide_eq_true h
    subst this
    exact ⟨fs, hx⟩
  · cases h
theorem hp_own_is {α : Type} {σ : hp_H} {a ci : Nat} {x : Option α} {o : α} (h : hp_own σ a ci x = some o) : hp_is σ a ci := by
  unfold hp_own at h
  split at h
  · rename_i h1
    exact hp_isb_is h1
  · cases h
theorem hp_own_to {α : Type} {σ : hp_H} {a ci : Nat} {x : Option α} {o : α} (h : hp_own σ a ci x = some o) : x = some o := by
  unfold hp_own at h
  split at h
  · exact h
  · cases h
theorem hp_b_to {α β : Type} {o : Option (α × hp_H)} {k : α → hp_H → Option β} {r : β} (h : hp_b o k = some r) : ∃ x σ', o = some (x, σ') ∧ k x σ' = some r := by
  cases o with
  | none => cases h
  | some x => exact ⟨x.1, x.2, rfl, h⟩
theorem hp_obj_to {σ : hp_H} {a ci : Nat} {fs : List Value} (h : hp_obj σ a ci = some fs) : σ.1 a = some (.inl (ci, fs)) := by
  unfold hp_obj at h
  split at h
  · rename_i x hx
    split at h
    · rename_i h1
      cases h
      rw [hx, ← h1]
    · cases h
  · cases h
theorem hp_gI_to {σ : hp_H} {a ci k : Nat} {v : Int32} (h : hp_gI σ a ci k = some v) : ∃ fs, σ.1 a = some (.inl (ci, fs)) ∧ fs[k]? = some (.int v) := by
  obtain ⟨fs, h1, h2⟩ := Option.bind_eq_some_iff.mp h
  refine ⟨fs, hp_obj_to h1, ?_⟩
  split at h2
  · rename_i x hx
    cases h2
    exact hx
  · cases h2
theorem hp_gR_to {σ : hp_H} {a ci k : Nat} {v : Nat} (h : hp_gR σ a ci k = some v) : ∃ fs, σ.1 a = some (.inl (ci, fs)) ∧ fs[k]? = some (.ref v) := by
  obtain ⟨fs, h1, h2⟩ := Option.bind_eq_some_iff.mp h
  refine ⟨fs, hp_obj_to h1, ?_⟩
  split at h2
  · rename_i x hx
    cases h2
    exact hx
  · cases h2
theorem hp_pV_to {σ σ' : hp_H} {a ci k : Nat} {v : Value} (h : hp_pV σ a ci k v = some σ') : ∃ fs, σ.1 a = some (.inl (ci, fs)) ∧ k < fs.length ∧ σ' = hp_set σ a (.inl (ci, fs.set k v)) := by
  obtain ⟨fs, h1, h2⟩ := Option.bind_eq_some_iff.mp h
  split at h2
  · rename_i hl
    exact ⟨fs, hp_obj_to h1, hl, (Option.some.inj h2).symm⟩
  · cases h2
theorem hp_row_to {σ : hp_H} {a t : Nat} {x : Nat × (Nat → Int32)} (h : hp_row σ a t = some x) : σ.1 a = some (.inr (.inl (t, x))) := by
  unfold hp_row at h
  split at h
  · rename_i y hy
    split at h
    · rename_i h1
      cases h
      rw [hy, ← h1]
    · cases h
  · cases h
theorem hp_rrow_to {σ : hp_H} {a t : Nat} {x : Nat × (Nat → Option Nat)} (h : hp_rrow σ a t = some x) : σ.1 a = some (.inr (.inr (t, x))) := by
  unfold hp_rrow at h
  split at h
  · rename_i y hy
    split at h
    · rename_i h1
      cases h
      rw [hy, ← h1]
    · cases h
  · cases h
theorem hp_aI_to {σ : hp_H} {a t : Nat} {i v : Int32} (h : hp_aI σ a t i = some v) : ∃ n f, σ.1 a = some (.inr (.inl (t, n, f))) ∧ vp_in i n ∧ v = f i.toNatClampNeg := by
  obtain ⟨x, h1, h2⟩ := Option.bind_eq_some_iff.mp h
  split at h2
  · rename_i hi
    exact ⟨x.1, x.2, hp_row_to h1, vp_in_iff.mpr hi, (Option.some.inj h2).symm⟩
  · cases h2
theorem hp_sI_to {σ σ' : hp_H} {a t : Nat} {i v : Int32} (h : hp_sI σ a t i v = some σ') : ∃ n f, σ.1 a = some (.inr (.inl (t, n, f))) ∧ vp_in i n ∧ σ' = hp_set σ a (.inr (.inl (t, n, upd f i.toNatClampNeg v))) := by
  obtain ⟨x, h1, h2⟩ := Option.bind_eq_some_iff.mp h
  split at h2
  · rename_i hi
    exact ⟨x.1, x.2, hp_row_to h1, vp_in_iff.mpr hi, (Option.some.inj h2).symm⟩
  · cases h2
theorem hp_aR_to {σ : hp_H} {a t : Nat} {i : Int32} {v : Nat} (h : hp_aR σ a t i = some v) : ∃ n f, σ.1 a = some (.inr (.inr (t, n, f))) ∧ vp_in i n ∧ f i.toNatClampNeg = some v := by
  obtain ⟨x, h1, h2⟩ := Option.bind_eq_some_iff.mp h
  split at h2
  · rename_i hi
    exact ⟨x.1, x.2, hp_rrow_to h1, vp_in_iff.mpr hi, h2⟩
  · cases h2
theorem hp_sR_to {σ σ' : hp_H} {a t ci : Nat} {i : Int32} {q : Nat} (h : hp_sR σ a t ci i q = some σ') : ∃ n f, σ.1 a = some (.inr (.inr (t, n, f))) ∧ vp_in i n ∧ hp_is σ q ci ∧ σ' = hp_set σ a (.inr (.inr (t, n, va_up f i.toNatClampNeg (some q)))) := by
  obtain ⟨x, h1, h2⟩ := Option.bind_eq_some_iff.mp h
  split at h2
  · rename_i hi
    exact ⟨x.1, x.2, hp_rrow_to h1, vp_in_iff.mpr hi.1, hp_isb_is hi.2, (Option.some.inj h2).symm⟩
  · cases h2
theorem hp_nz_to {α : Type} {y : Int32} {x : Option α} {o : α} (h : hp_nz y x = some o) : ¬ y = 0 ∧ x = some o := by
  unfold hp_nz at h
  split at h
  · cases h
  · rename_i h1
    exact ⟨h1, h⟩
theorem hp_nzl_to {α : Type} {y : Int64} {x : Option α} {o : α} (h : hp_nzl y x = some o) : ¬ y = 0 ∧ x = some o := by
  unfold hp_nzl at h
  split at h
  · cases h
  · rename_i h1
    exact ⟨h1, h⟩
theorem hp_z_to {α : Type} {r : Int32} {x : Option α} {o : α} (h : hp_z r x = some o) : (r = 0 ∨ r = 1) ∧ x = some o := by
  unfold hp_z at h
  split at h
  · rename_i h1
    exact ⟨h1, h⟩
  · cases h
theorem hp_narZ {r : Int32} (h : r = 0 ∨ r = 1) : narrow .boolean (.int r) = .int r ∧ fits .boolean (.int r) = true := by
  rcases h with rfl | rfl <;> exact ⟨rfl, rfl⟩
/-! ===== how the machine's heap follows ===== -/
theorem hp_R.upd {G : hp_G} {b : Nat} {H0 H H1 : Heap} {σ : hp_H} {locs L : List Loc} (hR : hp_R G b H0 σ H locs) {a : Nat} {v v' : hp_V} (e1 : σ.1 a = some v) (z : H1.size = H.size) (oq : ∀ q : Nat, q ≠ a → H1[q]? = H[q]?) (he : va_at G.1 vwCl (a, hp_c G v') H1) (hL : ∀ q ∈ L, q.base = a) : hp_R G b H0 (hp_set σ a v') H1 (locs ++ L) := by
  obtain ⟨⟨h1, h2, h3⟩, h4, h5, h6⟩ := hR
  have hab := (h3 a v e1).1
  refine ⟨⟨h1, z.trans h2, fun x w hw => ?_⟩, by rw [z]; exact h4, fun q g1 g2 => ?_, fun q hq => ?_⟩
  · by_cases hx : x = a
    · subst hx
      have : v' = w := by
        have h7 : (if x = x then some v' else σ.1 x) = some w := hw
        rw [if_pos rfl] at h7
        exact Option.some.inj h7
      subst this
      exact ⟨hab, he⟩
    · have h7 : (if x = a then some v' else σ.1 x) = some w := hw
      rw [if_neg hx] at h7
      exact ⟨(h3 x w h7).1, (h3 x w h7).2.kept (oq x hx)⟩
  · rw [oq q (fun e => g2 (by rw [e]; exact hab))]
    exact h5 q g1 g2
  · rcases List.mem_append.mp hq with h | h
    · exact h6 q h
    · show b ≤ q.base
      rw [hL q h]
      exact hab
theorem hp_R.new {G : hp_G} {b : Nat} {H0 H H1 : Heap} {σ : hp_H} {locs : List Loc} (hR : hp_R G b H0 σ H locs) {v : hp_V} (z : H1.size = H.size + 1) (oq : ∀ q : Nat, q < H.size → H1[q]? = H[q]?) (he : va_at G.1 vwCl (H.size, hp_c G v) H1) : hp_R G b H0 (hp_add σ v) H1 locs := by
  obtain ⟨⟨h1, h2, h3⟩, h4, h5, h6⟩ := hR
  refine ⟨⟨Nat.le_succ_of_le h1, by show H1.size = σ.2 + 1; rw [z, h2], fun x w hw => ?_⟩, by rw [z]; exact Nat.le_succ_of_le h4, fun q g1 g2 => ?_, h6⟩
  · by_cases hx : x = σ.2
    · have h7 : (if x = σ.2 then some v else σ.1 x) = some w := hw
      rw [if_pos hx] at h7
      cases h7
      rw [hx, ← h2]
      exact ⟨by rw [h2]; exact h1, he⟩
    · have h7 : (if x = σ.2 then some v else σ.1 x) = some w := hw
      rw [if_neg hx] at h7
      exact ⟨(h3 x w h7).1, (h3 x w h7).2.kept (oq x (h3 x w h7).2.lt)⟩
  · rw [oq q (Nat.lt_of_lt_of_le g1 h4)]
    exact h5 q g1 g2
end
section
/-! ===== rows: an instruction over the abstract heap ===== -/
section HPR
variable {p : Program} {l : Launch} {e : Env} {R : Room} {s : State} {m : MethodId} {args : Array Value} {below : List Frame} {meth : Method} {c : Code} {H : Heap} {locs : List Loc} {cells slots : Nat} {Q : State → Prop}
variable {cc : ByteArray} {pc nL : Nat} {ls : Array Slot} {rest : List Value} {G : hp_G} {b : Nat} {H0 : Heap} {σ : hp_H} {own : String} {α : Type} {out : α} {a : Nat}
theorem hp_one {v : hp_V} (hR : hp_R G b H0 σ H locs) (h : σ.1 a = some v) : va_P G.1 vwCl [(a, hp_c G v)] H := by
  intro k q hk
  have hz : k < 1 := (List.getElem?_eq_some_iff.mp hk).1
  rw [show k = 0 by omega] at hk
  cases hk
  exact (hR.1.2.2 a v h).2
theorem hp_getI (hX : hp_X G p s m c args cc nL own) (hR : hp_R G b H0 σ H locs) {C : String} {T : u_T} {N ci index : Nat} (k : Nat) (hc : vwCl[ci]? = some (C, T, N)) (hin : ∀ w ∈ u_ws C T N, w ∈ wsA) (hk : k < N) (hl : Cond.fieldLink own index (T k).1 (T k).2.1 (T k).2.2.1 ∈ wsA) (hdg : decode cc pc = .ok (.getfield index, 3)) {K : Int32 → Option α} (h : (hp_gI σ a ci k).bind K = some out)
    (kk : ∀ v : Int32, K v = some out → W p l e R s m args below meth c H locs cells slots Q (F0 m (pc + 3) ls (.int v :: rest))) : W p l e R s m args below meth c H locs cells slots Q (F0 m pc ls (.ref a :: rest)) := by
  obtain ⟨⟨hx, hb, hml, hown, hts⟩, hK⟩ := hX
  obtain ⟨v, h1, h2⟩ := Option.bind_eq_some_iff.mp h
  obtain ⟨fs, e1, e2⟩ := hp_gI_to h1
  exact va_get hx hb hts hin hown hK.1 (hp_one hR e1) 0 rfl hc k hk (hts _ hl) (fun _ h => h) e2 hdg (kk v h2)
theorem hp_getR (hX : hp_X G p s m c args cc nL own) (hR : hp_R G b H0 σ H locs) {C : String} {T : u_T} {N ci index : Nat} (k : Nat) (hc : vwCl[ci]? = some (C, T, N)) (hin : ∀ w ∈ u_ws C T N, w ∈ wsA) (hk : k < N) (hl : Cond.fieldLink own index (T k).1 (T k).2.1 (T k).2.2.1 ∈ wsA) (hdg : decode cc pc = .ok (.getfield index, 3)) {K : Nat → Option α} (h : (hp_gR σ a ci k).bind K = some out)
    (kk : ∀ v : Nat, K v = some out → W p l e R s m args below meth c H locs cells slots Q (F0 m (pc + 3) ls (.ref v :: rest))) : W p l e R s m args below meth c H locs cells slots Q (F0 m pc ls (.ref a :: rest)) := by
  obtain ⟨⟨hx, hb, hml, hown, hts⟩, hK⟩ := hX
  obtain ⟨v, h1, h2⟩ := Option.bind_eq_some_iff.mp h
  obtain ⟨fs, e1, e2⟩ := hp_gR_to h1
  exact va_get hx hb hts hin hown hK.1 (hp_one hR e1) 0 rfl hc k hk (hts _ hl) (fun _ h => h) e2 hdg (kk v h2)
theorem hp_putW (hX : hp_X G p s m c args cc nL own) (hR : hp_R G b H0 σ H locs) {C : String} {T : u_T} {N ci index : Nat} (k : Nat) (hc : vwCl[ci]? = some (C, T, N)) (hin : ∀ w ∈ u_ws C T N, w ∈ wsA) {ty0 : Nat → FieldType} (hty : ∀ k, k < N → parseFieldDescriptor (T k).2.2.1 = some (ty0 k)) (hnm : ∀ a, a < N → ∀ b, b < N → a ≠ b → (T a).2.1 ≠ (T b).2.1) (hk : k < N) (hl : Cond.fieldLink own index (T k).1 (T k).2.1 (T k).2.2.1 ∈ wsA) (hfin : (T k).2.2.2 = false) (hdg : decode cc pc = .ok (.putfield index, 3)) {ty : FieldType} (ht : ty0 k = ty) {v : Value} (hn : narrow ty v = v) (hfit : fits ty v = true) {σ' : hp_H} (h : hp_pV σ a ci k v = some σ')
    (kk : ∀ (H1 : Heap) (locs1 : List Loc), hp_R G b H0 σ' H1 locs1 → W p l e R s m args below meth c H1 locs1 cells slots Q (F0 m (pc + 3) ls rest)) : W p l e R s m args below meth c H locs cells slots Q (F0 m pc ls (v :: .ref a :: rest)) := by
  obtain ⟨⟨hx, hb, hml, hown, hts⟩, hK, -⟩ := hX
  obtain ⟨fs, e1, hlen, rfl⟩ := hp_pV_to h
  subst ht
  have hap := va_apart (own := own) hts hin ty0 hty hnm hK hc
  obtain ⟨r, h1, cell, q1, q2, q3, q4⟩ := (hR.1.2.2 a _ e1).2
  have hr : r = (C, T, N) := Option.some.inj (h1.symm.trans hc)
  subst hr
  obtain ⟨hS, hfc, kC, hkC, hkind⟩ := hK.1 ci _ hc
  obtain ⟨cf, kf, fi, f, hi, hsl⟩ := hS k hk
  have hlay := hts _ (hin _ (u_in_lay hk))
  unfold u_lay at hlay
  rw [if_neg (by rw [hfin]; decide)] at hlay
  have hst := (u_facts hfc hkC (u_lays hts hin hk) hi).1
  have h6 := u_store hfc hkC hkind hlay hi (hty k hk) hn hfit
  refine W.putK hx hb (f := f) ⟨hown, hts _ hl, ⟨_, _, _, hi⟩, hst⟩ (by rw [q2]; exact h6) q1 q3 (by rw [hsl]; exact k2_hasslot (q4 k hk)) rfl rfl hdg fun H' w1 w2 w3 => ?_
  rw [hsl] at w1 ⊢
  exact kk H' _ (hR.upd e1 w2 w3 ⟨_, hc, t_OB.to (V := updV (vp_V fs) k v) ⟨_, w1, q2, q3, t_set q4 hap hk v⟩ (fun j _ => vp_updV_set hlen v j)⟩ (fun q hq => by rw [List.mem_singleton.mp hq]))
theorem hp_putI (hX : hp_X G p s m c args cc nL own) (hR : hp_R G b H0 σ H locs) {C : String} {T : u_T} {N ci index : Nat} (k : Nat) (hc : vwCl[ci]? = some (C, T, N)) (hin : ∀ w ∈ u_ws C T N, w ∈ wsA) {ty0 : Nat → FieldType} (hty : ∀ k, k < N → parseFieldDescriptor (T k).2.2.1 = some (ty0 k)) (hnm : ∀ a, a < N → ∀ b, b < N → a ≠ b → (T a).2.1 ≠ (T b).2.1) (hk : k < N) (hl : Cond.fieldLink own index (T k).1 (T k).2.1 (T k).2.2.1 ∈ wsA) (hfin : (T k).2.2.2 = false) (hdg : decode cc pc = .ok (.putfield index, 3)) (ht : ty0 k = .int) {x : Int32} {K : hp_H → Option α} (h : (hp_pI σ a ci k x).bind K = some out)
    (kk : ∀ (σ' : hp_H) (H1 : Heap) (locs1 : List Loc), K σ' = some out → hp_R G b H0 σ' H1 locs1 → W p l e R s m args below meth c H1 locs1 cells slots Q (F0 m (pc + 3) ls rest)) : W p l e R s m args below meth c H locs cells slots Q (F0 m pc ls (.int x :: .ref a :: rest)) := by
  obtain ⟨σ', h1, h2⟩ := Option.bind_eq_some_iff.mp h
  exact hp_putW hX hR k hc hin hty hnm hk hl hfin hdg ht rfl rfl h1 (fun H1 locs1 hR1 => kk σ' H1 locs1 h2 hR1)
theorem hp_putZ (hX : hp_X G p s m c args cc nL own) (hR : hp_R G b H0 σ H locs) {C : String} {T : u_T} {N ci index : Nat} (k : Nat) (hc : vwCl[ci]? = some (C, T, N)) (hin : ∀ w ∈ u_ws C T N, w ∈ wsA) {ty0 : Nat → FieldType} (hty : ∀ k, k < N → parseFieldDescriptor (T k).2.2.1 = some (ty0 k)) (hnm : ∀ a, a < N → ∀ b, b < N → a ≠ b → (T a).2.1 ≠ (T b).2.1) (hk : k < N) (hl : Cond.fieldLink own index (T k).1 (T k).2.1 (T k).2.2.1 ∈ wsA) (hfin : (T k).2.2.2 = false) (hdg : decode cc pc = .ok (.putfield index, 3)) (ht : ty0 k = .boolean) {x : Int32} {K : hp_H → Option α} (h : (hp_pZ σ a ci k x).bind K = some out)
    (kk : ∀ (σ' : hp_H) (H1 : Heap) (locs1 : List Loc), K σ' = some out → hp_R G b H0 σ' H1 locs1 → W p l e R s m args below meth c H1 locs1 cells slots Q (F0 m (pc + 3) ls rest)) : W p l e R s m args below meth c H locs cells slots Q (F0 m pc ls (.int x :: .ref a :: rest)) := by
  obtain ⟨σ', h1, h2⟩ := Option.bind_eq_some_iff.mp h
  unfold hp_pZ at h1
  split at h1
  · rename_i hz
    exact hp_putW hX hR k hc hin hty hnm hk hl hfin hdg ht (hp_narZ hz).1 (hp_narZ hz).2 h1 (fun H1 locs1 hR1 => kk σ' H1 locs1 h2 hR1)
  · cases h1
/-- a final reference field, in a constructor -/
theorem hp_putR (hX : hp_X G p s m c args cc nL own) (hR : hp_R G b H0 σ H locs) {C : String} {T : u_T} {N ci index : Nat} (k : Nat) (hc : vwCl[ci]? = some (C, T, N)) (hin : ∀ w ∈ u_ws C T N, w ∈ wsA) {ty0 : Nat → FieldType} (hty : ∀ k, k < N → parseFieldDescriptor (T k).2.2.1 = some (ty0 k)) (hnm : ∀ a, a < N → ∀ b, b < N → a ≠ b → (T a).2.1 ≠ (T b).2.1) (hk : k < N) (hl : Cond.fieldLink own index (T k).1 (T k).2.1 (T k).2.2.1 ∈ wsA) (hfin : (T k).2.2.2 = true) (hin2 : meth.name = "<init>") (hdecl : (T k).1 = own) (hdg : decode cc pc = .ok (.putfield index, 3)) {x : Nat} (hn : narrow (ty0 k) (.ref x) = .ref x) (hfit : fits (ty0 k) (.ref x) = true) {K : hp_H → Option α} (h : (hp_pR σ a ci k x).bind K = some out)
    (kk : ∀ (σ' : hp_H) (H1 : Heap) (locs1 : List Loc), K σ' = some out → hp_R G b H0 σ' H1 locs1 → W p l e R s m args below meth c H1 locs1 cells slots Q (F0 m (pc + 3) ls rest)) : W p l e R s m args below meth c H locs cells slots Q (F0 m pc ls (.ref x :: .ref a :: rest)) := by
  obtain ⟨⟨hx, hb, hml, hown, hts⟩, hK, -⟩ := hX
  obtain ⟨σ', h1', h2'⟩ := Option.bind_eq_some_iff.mp h
  obtain ⟨fs, e1, hlen, rfl⟩ := hp_pV_to h1'
  have hap := va_apart (own := own) hts hin ty0 hty hnm hK hc
  obtain ⟨r, h1, cell, q1, q2, q3, q4⟩ := (hR.1.2.2 a _ e1).2
  have hr : r = (C, T, N) := Option.some.inj (h1.symm.trans hc)
  subst hr
  obtain ⟨hS, hfc, kC, hkC, hkind⟩ := hK.1 ci _ hc
  obtain ⟨cf, kf, fi, f, hi, hsl⟩ := hS k hk
  have hlay := hts _ (hin _ (u_in_lay hk))
  unfold u_lay at hlay
  rw [if_pos hfin] at hlay
  have hst := (u_facts hfc hkC (u_lays hts hin hk) hi).1
  have hcf : m.cls = cf := by
    obtain ⟨_, _, c', _, _, _, -, -, hf', -, -, -, hown2, -⟩ := Cond.laysFinal_spec hlay
    have g1 : c' = cf := by have := hi.symm.trans hf'; simp at this; exact this.1.symm
    rw [hdecl] at hown2
    rw [← g1]; exact Option.some.inj (hown.symm.trans hown2)
  have h6 := u_fits hfc hkC hkind (Or.inr hlay) hi (hty k hk) hn hfit
  refine W.putFinK hx hb hown (hts _ hl) hi hst hcf hin2 (by rw [q2]; exact h6) q1 q3 (by rw [hsl]; exact k2_hasslot (q4 k hk)) rfl rfl hdg fun H' w1 w2 w3 => ?_
  rw [hsl] at w1 ⊢
  exact kk _ H' _ h2' (hR.upd e1 w2 w3 ⟨_, hc, t_OB.to (V := updV (vp_V fs) k (.ref x)) ⟨_, w1, q2, q3, t_set q4 hap hk (.ref x)⟩ (fun j _ => vp_updV_set hlen (.ref x) j)⟩ (fun q hq => by rw [List.mem_singleton.mp hq]))
theorem hp_iald (hX : hp_X G p s m c args cc nL own) (hR : hp_R G b H0 σ H locs) (hdg : decode cc pc = .ok (.iaload, 1)) {i : Int32} {K : Int32 → Option α} (h : (hp_aI σ a 0 i).bind K = some out)
    (kk : ∀ v : Int32, K v = some out → W p l e R s m args below meth c H locs cells slots Q (F0 m (pc + 1) ls (.int v :: rest))) : W p l e R s m args below meth c H locs cells slots Q (F0 m pc ls (.int i :: .ref a :: rest)) := by
  obtain ⟨⟨hx, hb, hml, hown, hts⟩, hK⟩ := hX
  obtain ⟨v, h1, h2⟩ := Option.bind_eq_some_iff.mp h
  obtain ⟨n, f, e1, e2, rfl⟩ := hp_aI_to h1
  exact va_iald hx hb hK.1 (hp_one hR e1) 0 0 rfl rfl e2 hdg (kk _ h2)
theorem hp_zald (hX : hp_X G p s m c args cc nL own) (hR : hp_R G b H0 σ H locs) (hdg : decode cc pc = .ok (.baload, 1)) {i : Int32} {K : Int32 → Option α} (h : (hp_aI σ a 1 i).bind K = some out)
    (kk : ∀ v : Int32, K v = some out → W p l e R s m args below meth c H locs cells slots Q (F0 m (pc + 1) ls (.int v :: rest))) : W p l e R s m args below meth c H locs cells slots Q (F0 m pc ls (.int i :: .ref a :: rest)) := by
  obtain ⟨⟨hx, hb, hml, hown, hts⟩, hK⟩ := hX
  obtain ⟨v, h1, h2⟩ := Option.bind_eq_some_iff.mp h
  obtain ⟨n, f, e1, e2, rfl⟩ := hp_aI_to h1
  exact va_zald hx hb hK.1 (hp_one hR e1) 0 1 rfl rfl e2 hdg (kk _ h2)
theorem hp_alen (hX : hp_X G p s m c args cc nL own) (hR : hp_R G b H0 σ H locs) (hdg : decode cc pc = .ok (.arraylength, 1)) {K : Int32 → Option α} (h : (hp_ln σ a 0).bind K = some out)
    (kk : ∀ v : Int32, K v = some out → W p l e R s m args below meth c H locs cells slots Q (F0 m (pc + 1) ls (.int v :: rest))) : W p l e R s m args below meth c H locs cells slots Q (F0 m pc ls (.ref a :: rest)) := by
  obtain ⟨⟨hx, hb, hml, hown, hts⟩, hK⟩ := hX
  obtain ⟨v, h1, h2⟩ := Option.bind_eq_some_iff.mp h
  obtain ⟨x, h3, h4⟩ := Option.bind_eq_some_iff.mp h1
  exact va_alen hx hb hK.1 (hp_one hR (hp_row_to h3)) 0 0 rfl rfl (Option.some.inj h4) hdg (kk _ h2)
theorem hp_aald (hX : hp_X G p s m c args cc nL own) (hR : hp_R G b H0 σ H locs) (t : Nat) {C : String} (ht : (hp_tys G)[t]? = some (G.2 t, .object C)) (hdg : decode cc pc = .ok (.aaload, 1)) {i : Int32} {K : Nat → Option α} (h : (hp_aR σ a t i).bind K = some out)
    (kk : ∀ v : Nat, K v = some out → W p l e R s m args below meth c H locs cells slots Q (F0 m (pc + 1) ls (.ref v :: rest))) : W p l e R s m args below meth c H locs cells slots Q (F0 m pc ls (.int i :: .ref a :: rest)) := by
  obtain ⟨⟨hx, hb, hml, hown, hts⟩, hK⟩ := hX
  obtain ⟨v, h1, h2⟩ := Option.bind_eq_some_iff.mp h
  obtain ⟨n, f, e1, e2, e3⟩ := hp_aR_to h1
  have hw := kk v h2
  have e4 : va_rf (f i.toNatClampNeg) = .ref v := by rw [e3]; rfl
  rw [← e4] at hw
  exact va_aldq hx hb hK.1 (hp_one hR e1) 0 t rfl ht e2 hdg hw
theorem hp_iast (hX : hp_X G p s m c args cc nL own) (hR : hp_R G b H0 σ H locs) (hdg : decode cc pc = .ok (.iastore, 1)) {i x : Int32} {K : hp_H → Option α} (h : (hp_sI σ a 0 i x).bind K = some out)
    (kk : ∀ (σ' : hp_H) (H1 : Heap) (locs1 : List Loc), K σ' = some out → hp_R G b H0 σ' H1 locs1 → W p l e R s m args below meth c H1 locs1 cells slots Q (F0 m (pc + 1) ls rest)) : W p l e R s m args below meth c H locs cells slots Q (F0 m pc ls (.int x :: .int i :: .ref a :: rest)) := by
  obtain ⟨⟨hx, hb, hml, hown, hts⟩, hK⟩ := hX
  obtain ⟨σ', h1, h2⟩ := Option.bind_eq_some_iff.mp h
  obtain ⟨n, f, e1, e2, rfl⟩ := hp_sI_to h1
  refine W.iast hx hb (hR.1.2.2 a _ e1).2 ((hK.1.2 0 _ rfl).1 n (fun j => .int (f j))) (fun q => by cases q) (by show ¬ (i < 0 ∨ (arrV _ _ _).slots.size ≤ _); rw [arrV_size]; exact e2) rfl rfl hdg fun H1 w1 w2 w3 => ?_
  refine kk _ H1 _ h2 (hR.upd e1 w2 w3 ?_ (fun q hq => by rw [List.mem_singleton.mp hq]))
  show H1[a]? = some (vp_cell _ _)
  rw [w1]
  show some ((vp_cell _ _).setSlot _ _) = _
  rw [vp_cell_i, vp_cell_i, arrV_store]
  congr 2
  funext q
  by_cases hq : q = i.toNatClampNeg
  · subst hq
    simp [updV, upd]
  · simp [updV, upd, hq]
theorem hp_zast (hX : hp_X G p s m c args cc nL own) (hR : hp_R G b H0 σ H locs) (hdg : decode cc pc = .ok (.bastore, 1)) {i x : Int32} {K : hp_H → Option α} (h : (hp_sZ σ a 1 i x).bind K = some out)
    (kk : ∀ (σ' : hp_H) (H1 : Heap) (locs1 : List Loc), K σ' = some out → hp_R G b H0 σ' H1 locs1 → W p l e R s m args below meth c H1 locs1 cells slots Q (F0 m (pc + 1) ls rest)) : W p l e R s m args below meth c H locs cells slots Q (F0 m pc ls (.int x :: .int i :: .ref a :: rest)) := by
  obtain ⟨⟨hx, hb, hml, hown, hts⟩, hK⟩ := hX
  obtain ⟨σ', h1, h2⟩ := Option.bind_eq_some_iff.mp h
  unfold hp_sZ at h1
  split at h1
  · rename_i hz
    obtain ⟨n, f, e1, e2, rfl⟩ := hp_sI_to h1
    refine W.zast hx hb (hR.1.2.2 a _ e1).2 ((hK.1.2 1 _ rfl).1 n (fun j => .int (f j))) (fun q => by cases q) (by show ¬ (i < 0 ∨ (arrV _ _ _).slots.size ≤ _); rw [arrV_size]; exact e2) rfl rfl hdg fun H1 w1 w2 w3 => ?_
    rw [(hp_narZ hz).1] at w1
    refine kk _ H1 _ h2 (hR.upd e1 w2 w3 ?_ (fun q hq => by rw [List.mem_singleton.mp hq]))
    show H1[a]? = some (vp_cell _ _)
    rw [w1]
    show some ((vp_cell _ _).setSlot _ _) = _
    rw [vp_cell_i, vp_cell_i, arrV_store]
    congr 2
    funext q
    by_cases hq : q = i.toNatClampNeg
    · subst hq
      simp [updV, upd]
    · simp [updV, upd, hq]
  · cases h1
theorem hp_aast (hX : hp_X G p s m c args cc nL own) (hR : hp_R G b H0 σ H locs) (t ci : Nat) {r : vw_C} (ht : (hp_tys G)[t]? = some (G.2 t, .object r.1)) (hc : vwCl[ci]? = some r) (hdg : decode cc pc = .ok (.aastore, 1)) {i : Int32} {v : Nat} {K : hp_H → Option α} (h : (hp_sR σ a t ci i v).bind K = some out)
    (kk : ∀ (σ' : hp_H) (H1 : Heap) (locs1 : List Loc), K σ' = some out → hp_R G b H0 σ' H1 locs1 → W p l e R s m args below meth c H1 locs1 cells slots Q (F0 m (pc + 1) ls rest)) : W p l e R s m args below meth c H locs cells slots Q (F0 m pc ls (.ref v :: .int i :: .ref a :: rest)) := by
  obtain ⟨⟨hx, hb, hml, hown, hts⟩, hK⟩ := hX
  obtain ⟨σ', h1, h2⟩ := Option.bind_eq_some_iff.mp h
  obtain ⟨n, f, e1, e2, ⟨fs, e3⟩, rfl⟩ := hp_sR_to h1
  have hlt : i.toNatClampNeg < n := Nat.not_le.mp fun q => e2 (Or.inr q)
  have h0 : ¬ i < 0 := fun q => e2 (Or.inl q)
  obtain ⟨r', hr', cellV, g1, g2, g3, -⟩ := (hR.1.2.2 v _ e3).2
  have hcls := (hK.1.1 ci r hc).2
  obtain ⟨kA, comp, k1, k2, k3, -⟩ := (hK.1.2 t _ ht).2
  have hcomp : comp = G.1.1 ci := Option.some.inj (k3.symm.trans hcls.1)
  subst hcomp
  obtain ⟨kC, hkC, -⟩ := hcls.2
  refine W.aast hx hb (hR.1.2.2 a _ e1).2 (fun q h => by cases h) (fun h => by cases h) k1 k2 rfl hkC ⟨h0, by show _ < (arrV _ _ _).slots.size; rw [arrV_size]; exact hlt⟩ g1 (fun q h => by rw [g3] at h; cases h) (by rw [g2]; exact hkC) (by rw [g2]; exact va_assign hcls) rfl rfl hdg fun H1 w1 w2 w3 => ?_
  refine kk _ H1 _ h2 (hR.upd e1 w2 w3 ?_ (fun q hq => by rw [List.mem_singleton.mp hq]))
  show H1[a]? = some (vp_cell _ _)
  rw [w1]
  show some ((vp_cell _ _).setSlot _ _) = _
  rw [vp_cell_q, vp_cell_q, arrV_store]
  congr 2
  funext q
  by_cases hq : q = i.toNatClampNeg
  · subst hq
    simp [updV, va_up, va_rf]
  · simp [updV, va_up, hq]
theorem hp_new (hX : hp_X G p s m c args cc nL own) (hR : hp_R G b H0 σ H locs) {C : String} {T : u_T} {N ci index : Nat} (hc : vwCl[ci]? = some (C, T, N)) (hin : ∀ w ∈ u_ws C T N, w ∈ wsA) {ty0 : Nat → FieldType} (hty : ∀ k, k < N → parseFieldDescriptor (T k).2.2.1 = some (ty0 k)) (hcl : Cond.classLink own index C ∈ wsA) (hinst : Cond.instantiable C N ∈ wsA) (hini : Cond.initialized C ∈ wsA) {fs : List Value} (hfs : ∀ j, j < N → defaultValue (ty0 j) = vp_V fs j) (hcells : cells + 1 ≤ R.cells) (hslots : slots + N ≤ R.slots) (hdg : decode cc pc = .ok (.new index, 3))
    (kk : ∀ H1 : Heap, hp_R G b H0 (hp_add σ (.inl (ci, fs))) H1 locs → W p l e R s m args below meth c H1 locs (cells + 1) (slots + N) Q (F0 m (pc + 3) ls (.ref σ.2 :: rest))) : W p l e R s m args below meth c H locs cells slots Q (F0 m pc ls rest) := by
  obtain ⟨⟨hx, hb, hml, hown, hts⟩, hK, -⟩ := hX
  have hKn := hK.1 ci _ hc
  refine W.newcK hx hb hown (hts _ hcl) (hts _ hinst) (hts _ hini) rfl hdg hcells hslots hKn.2.1 rfl fun H1 kC hkC e1 z1 o1 => ?_
  have h9 := kk H1 (hR.new z1 o1 ⟨_, hc, (u_born ty0 hts hin hKn hkC e1 hty).to hfs⟩)
  rw [← hR.1.2.1] at h9
  exact h9
theorem hp_newa (hX : hp_X G p s m c args cc nL own) (hR : hp_R G b H0 σ H locs) {atype : ArrayType} (t : Nat) {ty : FieldType} (hty : newarray.typeOf atype = ty) (hd : defaultValue ty = .int 0) (ht : (hp_tys G)[t]? = some (G.2 t, ty)) (hnm : va_RA s (G.2 t) ty = (s.vm.findClass ("[" ++ ty.toString) = some (G.2 t))) (harr : Cond.arrayClass ty ∈ wsA) {n : Int32} (N : Nat) (hn : ¬ n < 0) (hN : n.toNatClampNeg = N) (hbytes : N * componentBytes ty ≤ 536870912) (hcells : cells + 1 ≤ R.cells) (hslots : slots + N ≤ R.slots) (hdg : decode cc pc = .ok (.newarray atype, 2))
    (kk : ∀ H1 : Heap, hp_R G b H0 (hp_add σ (.inr (.inl (t, N, fun _ => 0)))) H1 locs → W p l e R s m args below meth c H1 locs (cells + 1) (slots + N) Q (F0 m (pc + 2) ls (.ref σ.2 :: rest))) : W p l e R s m args below meth c H locs cells slots Q (F0 m pc ls (.int n :: rest)) := by
  obtain ⟨⟨hx, hb, hml, hown, hts⟩, hK, -⟩ := hX
  subst hty
  refine va_newaK hx hb (hts _ harr) rfl hdg rfl hn hN hbytes hcells hslots rfl fun H1 cA e1 z1 o1 hAr hNm => ?_
  have h3 : va_RA s (G.2 t) (newarray.typeOf atype) := (hK.2 t _ ht).2
  rw [hnm] at h3
  have hcA : cA = G.2 t := Option.some.inj (hNm.symm.trans h3)
  subst hcA
  have h9 := kk H1 (hR.new z1 o1 (by
    show H1[H.size]? = some (vp_cell _ _)
    rw [e1, hd]
    rfl))
  rw [← hR.1.2.1] at h9
  exact h9
theorem hp_newq (hX : hp_X G p s m c args cc nL own) (hR : hp_R G b H0 σ H locs) {C : String} (t : Nat) {index : Nat} (ht : (hp_tys G)[t]? = some (G.2 t, .object C)) (hov : C ∈ hp_over) (hcl : Cond.classLink own index C ∈ wsA) {n : Int32} (N : Nat) (hn : ¬ n < 0) (hN : n.toNatClampNeg = N) (hbytes : N * 4 ≤ 536870912) (hcells : cells + 1 ≤ R.cells) (hslots : slots + N ≤ R.slots) (hdg : decode cc pc = .ok (.anewarray index, 3))
    (kk : ∀ H1 : Heap, hp_R G b H0 (hp_add σ (.inr (.inr (t, N, fun _ => none)))) H1 locs → W p l e R s m args below meth c H1 locs (cells + 1) (slots + N) Q (F0 m (pc + 3) ls (.ref σ.2 :: rest))) : W p l e R s m args below meth c H locs cells slots Q (F0 m pc ls (.int n :: rest)) := by
  obtain ⟨⟨hx, hb, hml, hown, hts⟩, hK, -, hO⟩ := hX
  subst hN
  refine W.anew hx hb hown (hts _ hcl) (va_AO.use (hO C hov)) rfl hdg rfl hn hbytes hcells hslots fun cA kA comp f1 f2 f3 f4 => ?_
  obtain ⟨-, -, -, -, -, k4⟩ := (hK.2 t _ ht).2
  have hcA : cA = G.2 t := Option.some.inj (f1.symm.trans k4)
  subst hcA
  generalize hH1 : H.push ({ cls := G.2 t, slots := Array.replicate n.toNatClampNeg .null, vm := .none } : Cell) = H1
  have z1 : H1.size = H.size + 1 := by rw [← hH1, Array.size_push]
  have e1 : H1[H.size]? = some (arrV (G.2 t) n.toNatClampNeg (fun _ => .null)) := by rw [← hH1, Array.getElem?_push_size, ← arrV_new]
  have o1 : ∀ q : Nat, q < H.size → H1[q]? = H[q]? := fun q hq => by rw [← hH1, Array.getElem?_push, if_neg (Nat.ne_of_lt hq)]
  have h9 := kk H1 (hR.new z1 o1 (by
    show H1[H.size]? = some (vp_cell _ _)
    rw [e1]
    rfl))
  rw [← hR.1.2.1] at h9
  exact h9
end HPR
end
section
/-! ===== rows: calls, returns, a method's contract out of its walk ===== -/
theorem hp_good : GoodIn wsA wsA := wsA_good
theorem hp_goodC {w : Cond} (h : w ∈ wsA) : GoodIn wsA (w :: wsA) := fun x hx => (List.mem_cons.mp hx).elim (fun e => by rw [e]; exact hp_good w h) (hp_good x)
section HPC
variable {p : Program} {l : Launch} {e : Env} {R : Room} {s : State} {m : MethodId} {args : Array Value} {below : List Frame} {meth : Method} {c : Code} {H : Heap} {locs : List Loc} {cells slots : Nat} {Q : State → Prop}
variable {cc : ByteArray} {pc nL : Nat} {ls : Array Slot} {rest st0 : List Value} {G : hp_G} {b : Nat} {H0 : Heap} {σ σ' : hp_H} {own : String} {α : Type} {out : α} {a : Nat}
variable {y : MethodName} {bytes : ByteArray} {maxL mc ms n index : Nat} {ret : Option FieldType} {rm : Room} {As : List Value} {rv : Option Value}
theorem hp_call {aa : Array Value} (hr : va_Run p l e R s m args below meth c H locs cells slots mc ms (F0 m pc ls st0) rest (hp_Qc G b rv σ' aa) (fun q => b ≤ q)) (hR : hp_R G b H0 σ H locs)
    (kk : ∀ (H1 : Heap) (locs1 : List Loc), hp_R G b H0 σ' H1 locs1 → W p l e R s m args below meth c H1 locs1 (cells + mc) (slots + ms) Q (F0 m (pc + 3) ls (rv.toList ++ rest))) : W p l e R s m args below meth c H locs cells slots Q (F0 m pc ls st0) := by
  intro T hT X
  obtain ⟨v, st₀, t, T', L, h0, X', hL, e1, e2, ⟨hv, hB, hz, hk⟩, st⟩ := hr T hT X
  cases hv
  rw [h0] at hz hk
  have hS := hR.2
  obtain ⟨t2, a1, b1⟩ := kk T'.heap (locs ++ L) ⟨by rw [e1]; exact hB, Nat.le_trans hS.1 (by rw [e1]; exact hz), fun q h1 h2 => by rw [e1, hk q (Nat.lt_of_lt_of_le h1 hS.1) h2]; exact hS.2.1 q h1 h2, fun q hq => by
      rcases List.mem_append.mp hq with h | h
      · exact hS.2.2 q h
      · exact hL q h⟩ T' rfl X'
  exact ⟨t2, st t2 a1, b1⟩
theorem hp_preS (hX : hp_X G p s m c args cc nL own) (hR : hp_R G b H0 σ H locs) : PreS s H (hp_Pc G b As σ) As := ⟨hp_blind, fun U hU hW => ⟨rfl, by rw [hU]; exact hR.1, hX.2.warm hW⟩⟩
theorem hp_preV (hX : hp_X G p s m c args cc nL own) (hR : hp_R G b H0 σ H locs) {C : String} {T : u_T} {N ci : Nat} (hc : vwCl[ci]? = some (C, T, N)) (hi : hp_is σ a ci) : PreV s H C a (hp_Pc G b (.ref a :: As) σ) As := by
  obtain ⟨fs, e1⟩ := hi
  exact ⟨hp_blind, va_recv hX.2.1 (hp_one hR e1) (q0 := 0) hc rfl, fun U hU hW => ⟨rfl, by rw [hU]; exact hR.1, hX.2.warm hW⟩⟩
/-- words of a call of an instance method -/
def hp_WV (own : String) (index : Nat) (C : String) (y : MethodName) (bytes : ByteArray) (maxL : Nat) (ret : Option FieldType) : Prop := Cond.methodLink own index y ∈ wsA ∧ Cond.instanceMethod y ∈ wsA ∧ Cond.selects C y y ∈ wsA ∧ Cond.initialized C ∈ wsA ∧ Cond.code y bytes maxL ret ∈ wsA
def hp_WS (own : String) (index : Nat) (y : MethodName) (bytes : ByteArray) (maxL : Nat) (ret : Option FieldType) : Prop := Cond.methodLink own index y ∈ wsA ∧ Cond.static y ∈ wsA ∧ Cond.initialized y.cls ∈ wsA ∧ Cond.code y bytes maxL ret ∈ wsA
def hp_WI (own : String) (index : Nat) (y : MethodName) (bytes : ByteArray) (maxL : Nat) : Prop := Cond.methodLink own index y ∈ wsA ∧ Cond.instanceMethod y ∈ wsA ∧ Cond.initialized y.cls ∈ wsA ∧ Cond.code y bytes maxL none ∈ wsA
def hp_WSN (own : String) (index : Nat) (y : MethodName) (host : String) (bytes : ByteArray) (maxL : Nat) (ret : Option FieldType) : Prop := (own, index, y, host) ∈ hp_nest ∧ Cond.static y ∈ wsA ∧ Cond.initialized y.cls ∈ wsA ∧ Cond.code y bytes maxL ret ∈ wsA
def hp_WIN (own : String) (index : Nat) (y : MethodName) (host : String) (bytes : ByteArray) (maxL : Nat) : Prop := (own, index, y, host) ∈ hp_nest ∧ Cond.instanceMethod y ∈ wsA ∧ Cond.initialized y.cls ∈ wsA ∧ Cond.code y bytes maxL none ∈ wsA
abbrev hp_Met (l : Launch) (y : MethodName) (bytes : ByteArray) (maxL : Nat) (ret : Option FieldType) (rm : Room) (G : hp_G) (b : Nat) (as : List Value) (σ : hp_H) (rv : Option Value) (σ' : hp_H) (mc ms : Nat) : Prop := Met l y (Cond.code y bytes maxL ret :: wsA) rm (hp_Pc G b as σ) (hp_Qc G b rv σ') mc ms (fun q => b ≤ q)
abbrev hp_d (y : MethodName) (n : Nat) : Prop := y.cls ≠ "java/lang/invoke/MethodHandle" ∧ y.cls ≠ "java/lang/invoke/VarHandle" ∧ (parseMethodDescriptor y.desc).map (fun d => d.parameters.length) = some n
theorem hp_runV (hX : hp_X G p s m c args cc nL own) (hR : hp_R G b H0 σ H locs) (hM : hp_Met l y bytes maxL ret rm G b (.ref a :: As) σ rv σ' mc ms) {C : String} (hw : hp_WV own index C y bytes maxL ret) (hC : y.cls = C) (hrc : rm.cells = mc) (hrs : rm.slots = ms) (hd : hp_d y n) (hroom : rm.frames + 1 ≤ R.frames ∧ 8 + (maxL + 11) + rm.locals ≤ R.locals) {T : u_T} {N ci : Nat} (hc : vwCl[ci]? = some (C, T, N)) (hi : hp_is σ a ci) (hn : As.length = n) (hsize : ls.size = nL) (hst : st0 = As.reverse ++ .ref a :: rest) (hrest : (rest.map fun v => v.category).sum ≤ 8) (hdg : decode cc pc = .ok (.invokevirtual index, 3)) (hf : cells + mc ≤ R.cells ∧ slots + ms ≤ R.slots) :
    va_Run p l e R s m args below meth c H locs cells slots mc ms (F0 m pc ls st0) rest (hp_Qc G b rv σ' (Value.ref a :: As).toArray) (fun q => b ≤ q) := by
  obtain ⟨w1, w2, w3, w4, w5⟩ := hw
  subst hC
  have hG : GoodIn wsA (wsV own index y.cls y (Cond.code y bytes maxL ret :: wsA)) := by
    intro w hw
    rcases List.mem_append.mp hw with h | h
    · simp only [List.mem_cons, List.not_mem_nil, or_false] at h
      rcases h with rfl | rfl | rfl | rfl
      · exact hp_good _ w1
      · exact hp_good _ w2
      · exact hp_good _ w3
      · exact hp_good _ w4
    · exact hp_goodC w5 w h
  exact va_runV hX.1 hM (cwV n hX.1.2.2.2.2 hG rfl hrc hrs ⟨rfl, hd⟩ hroom) (hp_preV hX hR hc hi) rfl hn hsize hst (lv_room hrest) hdg hf
theorem hp_runS (hX : hp_X G p s m c args cc nL own) (hR : hp_R G b H0 σ H locs) (hM : hp_Met l y bytes maxL ret rm G b As σ rv σ' mc ms) (hw : hp_WS own index y bytes maxL ret) (hrc : rm.cells = mc) (hrs : rm.slots = ms) (hd : hp_d y n) (hroom : rm.frames + 1 ≤ R.frames ∧ 8 + (maxL + 11) + rm.locals ≤ R.locals) (hn : As.length = n) (hsize : ls.size = nL) (hst : st0 = As.reverse ++ rest) (hrest : (rest.map fun v => v.category).sum ≤ 8) (hdg : decode cc pc = .ok (.invokestatic index, 3)) (hf : cells + mc ≤ R.cells ∧ slots + ms ≤ R.slots) :
    va_Run p l e R s m args below meth c H locs cells slots mc ms (F0 m pc ls st0) rest (hp_Qc G b rv σ' As.toArray) (fun q => b ≤ q) := by
  obtain ⟨w1, w2, w3, w4⟩ := hw
  have hts := hX.1.2.2.2.2
  exact va_runS hX.1 hM ⟨callB_of n hts (hp_goodC w4) rfl hrc hrs (hts _ w3) (hts _ w1) hd hroom, hts _ w2⟩ (hp_preS hX hR) rfl hn hsize hst (lv_room hrest) hdg hf
theorem hp_runI (hX : hp_X G p s m c args cc nL own) (hR : hp_R G b H0 σ H locs) (hM : hp_Met l y bytes maxL none rm G b (.ref a :: As) σ rv σ' mc ms) (hw : hp_WI own index y bytes maxL) (hy : y.name = "<init>") (hrc : rm.cells = mc) (hrs : rm.slots = ms) (hd : hp_d y n) (hroom : rm.frames + 1 ≤ R.frames ∧ 8 + (maxL + 11) + rm.locals ≤ R.locals) (hn : As.length = n) (hsize : ls.size = nL) (hst : st0 = As.reverse ++ .ref a :: rest) (hrest : (rest.map fun v => v.category).sum ≤ 8) (hdg : decode cc pc = .ok (.invokespecial index, 3)) (hf : cells + mc ≤ R.cells ∧ slots + ms ≤ R.slots) :
    va_Run p l e R s m args below meth c H locs cells slots mc ms (F0 m pc ls st0) rest (hp_Qc G b rv σ' (Value.ref a :: As).toArray) (fun q => b ≤ q) := by
  obtain ⟨w1, w2, w3, w4⟩ := hw
  have hts := hX.1.2.2.2.2
  exact va_runI hX.1 hM (cwI n hts (hp_goodC w4) rfl hrc hrs (hts _ w3) (hts _ w1) (hts _ w2) hy hd hroom) (hp_preS hX hR) rfl hn hsize hst (lv_room hrest) hdg hf
theorem hp_runSN (hX : hp_X G p s m c args cc nL own) (hR : hp_R G b H0 σ H locs) (hM : hp_Met l y bytes maxL ret rm G b As σ rv σ' mc ms) {host : String} (hw : hp_WSN own index y host bytes maxL ret) (hrc : rm.cells = mc) (hrs : rm.slots = ms) (hd : hp_d y n) (hroom : rm.frames + 1 ≤ R.frames ∧ 8 + (maxL + 11) + rm.locals ≤ R.locals) (hn : As.length = n) (hsize : ls.size = nL) (hst : st0 = As.reverse ++ rest) (hrest : (rest.map fun v => v.category).sum ≤ 8) (hdg : decode cc pc = .ok (.invokestatic index, 3)) (hf : cells + mc ≤ R.cells ∧ slots + ms ≤ R.slots) :
    va_Run p l e R s m args below meth c H locs cells slots mc ms (F0 m pc ls st0) rest (hp_Qc G b rv σ' As.toArray) (fun q => b ≤ q) := by
  obtain ⟨w1, w2, w3, w4⟩ := hw
  have hts := hX.1.2.2.2.2
  exact va_runSN hX.1 hM ⟨va_cnB n hts (hp_goodC w4) rfl hrc hrs (hX.2.2.1 _ w1) (hts _ w3) hd hroom, hts _ w2, trivial⟩ (hp_preS hX hR) rfl hn hsize hst (lv_room hrest) hdg hf
theorem hp_runIN (hX : hp_X G p s m c args cc nL own) (hR : hp_R G b H0 σ H locs) (hM : hp_Met l y bytes maxL none rm G b (.ref a :: As) σ rv σ' mc ms) {host : String} (hw : hp_WIN own index y host bytes maxL) (hy : y.name = "<init>") (hrc : rm.cells = mc) (hrs : rm.slots = ms) (hd : hp_d y n) (hroom : rm.frames + 1 ≤ R.frames ∧ 8 + (maxL + 11) + rm.locals ≤ R.locals) (hn : As.length = n) (hsize : ls.size = nL) (hst : st0 = As.reverse ++ .ref a :: rest) (hrest : (rest.map fun v => v.category).sum ≤ 8) (hdg : decode cc pc = .ok (.invokespecial index, 3)) (hf : cells + mc ≤ R.cells ∧ slots + ms ≤ R.slots) :
    va_Run p l e R s m args below meth c H locs cells slots mc ms (F0 m pc ls st0) rest (hp_Qc G b rv σ' (Value.ref a :: As).toArray) (fun q => b ≤ q) := by
  obtain ⟨w1, w2, w3, w4⟩ := hw
  have hts := hX.1.2.2.2.2
  exact va_runIN hX.1 hM ⟨va_cnB n hts (hp_goodC w4) rfl hrc hrs (hX.2.2.1 _ w1) (hts _ w3) hd hroom, hy, hts _ w2⟩ (hp_preS hX hR) rfl hn hsize hst (lv_room hrest) hdg hf
/-- behind a call: an int, nothing, a reference -/
theorem hp_ci {r : Int32} {aa : Array Value} (hR : hp_R G b H0 σ H locs) (hr : va_Run p l e R s m args below meth c H locs cells slots mc ms (F0 m pc ls st0) rest (hp_Qc G b (some (.int r)) σ' aa) (fun q => b ≤ q))
    (kk : ∀ (H1 : Heap) (locs1 : List Loc), hp_R G b H0 σ' H1 locs1 → W p l e R s m args below meth c H1 locs1 (cells + mc) (slots + ms) Q (F0 m (pc + 3) ls (.int r :: rest))) : W p l e R s m args below meth c H locs cells slots Q (F0 m pc ls st0) := hp_call hr hR kk
theorem hp_cv {aa : Array Value} (hR : hp_R G b H0 σ H locs) (hr : va_Run p l e R s m args below meth c H locs cells slots mc ms (F0 m pc ls st0) rest (hp_Qc G b none σ' aa) (fun q => b ≤ q))
    (kk : ∀ (H1 : Heap) (locs1 : List Loc), hp_R G b H0 σ' H1 locs1 → W p l e R s m args below meth c H1 locs1 (cells + mc) (slots + ms) Q (F0 m (pc + 3) ls rest)) : W p l e R s m args below meth c H locs cells slots Q (F0 m pc ls st0) := hp_call hr hR kk
theorem hp_cr {r : Nat} {aa : Array Value} (hR : hp_R G b H0 σ H locs) (hr : va_Run p l e R s m args below meth c H locs cells slots mc ms (F0 m pc ls st0) rest (hp_Qc G b (some (.ref r)) σ' aa) (fun q => b ≤ q))
    (kk : ∀ (H1 : Heap) (locs1 : List Loc), hp_R G b H0 σ' H1 locs1 → W p l e R s m args below meth c H1 locs1 (cells + mc) (slots + ms) Q (F0 m (pc + 3) ls (.ref r :: rest))) : W p l e R s m args below meth c H locs cells slots Q (F0 m pc ls st0) := hp_call hr hR kk
/-- the ends -/
theorem hp_iret {out : Int32 × hp_H} {v : Int32} (hX : hp_X G p s m c args cc nL own) (hlocks : meth.locks = false) (hr : meth.sig.returnType = some .int) (hR : hp_R G b s.heap σ H locs) (h : some (v, σ) = some out) (hdg : decode cc pc = .ok (.ireturn, 1)) :
    W p l e R s m args below meth c H locs cells slots (MQ below (hp_Qc G b (some (.int out.1)) out.2) args s cells slots (fun q => b ≤ q)) (F0 m pc ls [.int v]) := by
  cases h
  exact W.iret hX.1.1 hX.1.2.1 hr (fun t ht hW => ⟨rfl, by rw [ht]; exact hR.1, hR.2.F ht⟩) hR.2.2.2 hdg hlocks
theorem hp_zret {out : Int32 × hp_H} {v : Int32} (hX : hp_X G p s m c args cc nL own) (hlocks : meth.locks = false) (hr : meth.sig.returnType = some .boolean) (hR : hp_R G b s.heap σ H locs) (h : hp_z v (some (v, σ)) = some out) (hdg : decode cc pc = .ok (.ireturn, 1)) :
    W p l e R s m args below meth c H locs cells slots (MQ below (hp_Qc G b (some (.int out.1)) out.2) args s cells slots (fun q => b ≤ q)) (F0 m pc ls [.int v]) := by
  obtain ⟨hz, h⟩ := hp_z_to h
  cases h
  exact W.zret hX.1.1 hX.1.2.1 hr (hp_narZ hz).1 (fun t ht hW => ⟨rfl, by rw [ht]; exact hR.1, hR.2.F ht⟩) hR.2.2.2 hdg hlocks
theorem hp_vret {out : hp_H} (hX : hp_X G p s m c args cc nL own) (hlocks : meth.locks = false) (hr : meth.sig.returnType = none) (hR : hp_R G b s.heap σ H locs) (h : some σ = some out) (hdg : decode cc pc = .ok (.return_, 1)) :
    W p l e R s m args below meth c H locs cells slots (MQ below (hp_Qc G b none out) args s cells slots (fun q => b ≤ q)) (F0 m pc ls []) := by
  cases h
  exact W.vret hX.1.1 hX.1.2.1 hr (fun t ht hW => ⟨rfl, by rw [ht]; exact hR.1, hR.2.F ht⟩) hR.2.2.2 hdg hlocks
theorem hp_aret {out : Nat × hp_H} {v : Nat} {C : String} (hX : hp_X G p s m c args cc nL own) (hlocks : meth.locks = false) (hr : meth.sig.returnType = some (.object C)) (hR : hp_R G b s.heap σ H locs) (h : some (v, σ) = some out) (hdg : decode cc pc = .ok (.areturn, 1)) :
    W p l e R s m args below meth c H locs cells slots (MQ below (hp_Qc G b (some (.ref out.1)) out.2) args s cells slots (fun q => b ≤ q)) (F0 m pc ls [.ref v]) := by
  cases h
  exact W.aret hX.1.1 hX.1.2.1 hr (Or.inl ⟨_, rfl⟩) (Or.inr ⟨_, rfl⟩) (fun t ht hW => ⟨rfl, by rw [ht]; exact hR.1, hR.2.F ht⟩) hR.2.2.2 hdg hlocks
/-- a method's contract out of its walk -/
theorem hp_met {as : List Value} (hy : plainName y.cls = true) (hlen : (lg_sl as).length ≤ maxL)
    (body : ∀ (p : Program) (e : Env) (s : State) (m : MethodId) (below : List Frame) (meth : Method) (c : Code) (ls : Array Slot), hp_X G p s m c as.toArray bytes maxL y.cls → meth.locks = false → meth.sig.returnType = ret → meth.name = y.name → lv_has ls maxL (lv_args 0 as) → hp_R G b s.heap σ s.heap [] →
      W p l e rm s m as.toArray below meth c s.heap [] 0 0 (MQ below (hp_Qc G b rv σ') as.toArray s mc ms (fun q => b ≤ q)) (F0 m 0 ls [])) : hp_Met l y bytes maxL ret rm G b as σ rv σ' mc ms := by
  refine Met.ofW (cc := bytes) (maxL := maxL) (ret := ret) hy rfl ?_
  intro p e s m args below meth c s₁ B hml hv
  obtain ⟨rfl, hB, hK⟩ := hv
  have hts := atoms_spec (ws := Cond.code y bytes maxL ret :: wsA) B.pre
  have hl := lv_entry as (n := maxL) hlen
  rw [lg_entry_eq]
  exact body p e s m below meth c _ ⟨⟨B.exec, B.bytes, hml, findClass_of_methodNamed B.named, fun w hw => hts w (List.mem_cons_of_mem _ hw)⟩, hK⟩ B.notSynchronized B.returns (name_of_methodNamed B.named B.method).1 hl ⟨hB, va_S.rf⟩
/-- System.arraycopy of ints -/
theorem hp_copy (hX : hp_X G p s m c args cc nL own) (hR : hp_R G b H0 σ H locs) (hl : Cond.methodLink own index arraycopyName ∈ wsA) (hw : Cond.native arraycopyName ∈ wsA ∧ Cond.static arraycopyName ∈ wsA ∧ Cond.initialized "java/lang/System" ∈ wsA) (hsize : ls.size = nL) (hframes : 1 ≤ R.frames) (hlocals : (rest.map fun v => v.category).sum + (nativeFrameWords "java/lang/System" "arraycopy" 5 + 11) ≤ R.locals) (hdg : decode cc pc = .ok (.invokestatic index, 3)) {a0 : Nat} {sp dp n : Int32} {K : hp_H → Option α} (h : (hp_cp σ a0 sp a dp n).bind K = some out)
    (kk : ∀ (σ' : hp_H) (H1 : Heap) (locs1 : List Loc), K σ' = some out → hp_R G b H0 σ' H1 locs1 → W p l e R s m args below meth c H1 locs1 cells slots Q (F0 m (pc + 3) ls rest)) : W p l e R s m args below meth c H locs cells slots Q (F0 m pc ls (.int n :: .int dp :: .ref a :: .int sp :: .ref a0 :: rest)) := by
  obtain ⟨⟨hx, hb, hml, hown, hts⟩, hK⟩ := hX
  obtain ⟨σ', h1', h2'⟩ := Option.bind_eq_some_iff.mp h
  obtain ⟨x, g1, h3'⟩ := Option.bind_eq_some_iff.mp h1'
  obtain ⟨y, g2, h4'⟩ := Option.bind_eq_some_iff.mp h3'
  split at h4'
  case isFalse => cases h4'
  rename_i hcnd
  obtain ⟨⟨h1, h2, h3⟩, h4, h5⟩ := hcnd
  cases h4'
  obtain ⟨n0, f⟩ := x
  obtain ⟨n1, g⟩ := y
  have s0 := hp_row_to g1
  have s1 := hp_row_to g2
  have nn : ∀ z : Int32, ¬ z < 0 → z.toInt = (z.toNatClampNeg : Int) := by
    intro z hz
    have hz0 : (0 : Int) ≤ z.toInt := by
      have := Int32.not_lt.mp hz
      simpa using Int32.le_iff_toInt_le.mp this
    show z.toInt = ((z.toInt.toNat : Nat) : Int)
    omega
  intro T hT X
  have hc0 : H[a0]? = some (vp_cell (G.2 0) (n0, .inl f)) := (hR.1.2.2 a0 _ s0).2
  have hc1 : H[a]? = some (vp_cell (G.2 0) (n1, .inl g)) := (hR.1.2.2 a _ s1).2
  obtain ⟨-, k0, hk0, cm0, hkk0⟩ := (hK.1.2 0 _ rfl).1 n0 (fun j => .int (f j))
  obtain ⟨vm', X', step⟩ := X.arraycopy hx hown (hts _ hl) (hts _ hw.1) (hts _ hw.2.1) (hts _ hw.2.2) (src := a0) (dst := a) (cs := vp_cell (G.2 0) (n0, .inl f)) (cd := vp_cell (G.2 0) (n1, .inl g)) (srcPos := sp) (destPos := dp) (n := n) (by rw [hT]; exact hc0) (by rw [hT]; exact hc1)
    (fun _ h => by cases h) (fun _ h => by cases h) (fun h => by cases h) (fun h => by cases h) hk0 hk0 hkk0 hkk0 (by simp [refKind]) h1 h2 h3
    (by rw [nn sp h1, nn n h3]; show ¬ _ > ((arrV (G.2 0) n0 (fun j => .int (f j))).slots.size : Int); rw [arrV_size]; have h4 : sp.toNatClampNeg + n.toNatClampNeg ≤ n0 := h4; omega)
    (by rw [nn dp h2, nn n h3]; show ¬ _ > ((arrV (G.2 0) n1 (fun j => .int (g j))).slots.size : Int); rw [arrV_size]; have h5 : dp.toNatClampNeg + n.toNatClampNeg ≤ n1 := h5; omega)
    (fun vm₁ _ i hi => by
      have e : (vp_cell (G.2 0) (n0, .inl f)).slots.getD (sp.toNatClampNeg + i) .null = .int (f (sp.toNatClampNeg + i)) := by
        show (arrV (G.2 0) n0 (fun j => .int (f j))).slots.getD _ _ = _
        have h4 : sp.toNatClampNeg + n.toNatClampNeg ≤ n0 := h4
        rw [Array.getD_eq_getD_getElem?, arrV_read _ _ (by omega)]
        rfl
      refine ⟨?_, ?_⟩
      · rw [e]
        rfl
      · rw [e]
        exact trivial)
    (g := F0 m pc ls (.int n :: .int dp :: .ref a :: .int sp :: .ref a0 :: rest)) rfl (by rw [hml]; exact hsize) (rest := rest) rfl (by rw [hb]; exact hdg) hframes (by show 2 * 0 + _ + _ ≤ _; omega)
  have e1 : copied (vp_cell (G.2 0) (n0, .inl f)) (vp_cell (G.2 0) (n1, .inl g)) sp dp n = vp_cell (G.2 0) (n1, .inl (va_cpy f g sp.toNatClampNeg dp.toNatClampNeg n.toNatClampNeg)) := va_copied (fun z => .int z) (G.2 0) (G.2 0) f g h4
  rw [e1] at X' step
  have hl : a < H.size := (Array.getElem?_eq_some_iff.mp hc1).1
  have hheap : ((T.setVm vm').setCell a (vp_cell (G.2 0) (n1, .inl (va_cpy f g sp.toNatClampNeg dp.toNatClampNeg n.toNatClampNeg)))).heap = H.setIfInBounds a (vp_cell (G.2 0) (n1, .inl (va_cpy f g sp.toNatClampNeg dp.toNatClampNeg n.toNatClampNeg))) := by rw [← hT]; rfl
  have oq : ∀ q : Nat, q ≠ a → (H.setIfInBounds a (vp_cell (G.2 0) (n1, .inl (va_cpy f g sp.toNatClampNeg dp.toNatClampNeg n.toNatClampNeg))))[q]? = H[q]? := fun q hq => by simp [Array.getElem?_setIfInBounds, Ne.symm hq]
  obtain ⟨t, a1, b1⟩ := kk _ _ _ h2' (hR.upd s1 (by simp) oq (show (H.setIfInBounds a _)[a]? = some _ by simp [Array.getElem?_setIfInBounds, hl]) (fun q hq => by
        obtain ⟨z, -, hz⟩ := List.mem_map.mp hq
        rw [← hz])) _ hheap X'
  exact ⟨t, step t a1, b1⟩
end HPC
end
section
/-! ===== small rows that the generated walks use ===== -/
theorem hp_ip {α : Type} {cd : Prop} [Decidable cd] {A B : Option α} {o : α} (hc : cd) (h : (if cd then A else B) = some o) : A = some o := by rw [if_pos hc] at h; exact h
theorem hp_in {α : Type} {cd : Prop} [Decidable cd] {A B : Option α} {o : α} (hc : ¬ cd) (h : (if cd then A else B) = some o) : B = some o := by rw [if_neg hc] at h; exact h
theorem hp_bn {α β : Type} {o : Option α} {K : α → Option β} {r : β} {P : Prop} (h : o.bind K = some r) (k : ∀ v, o = some v → K v = some r → P) : P := by
  obtain ⟨v, h1, h2⟩ := Option.bind_eq_some_iff.mp h
  exact k v h1 h2
theorem hp_b2 {α β : Type} {o : Option (α × hp_H)} {K : α → hp_H → Option β} {r : β} {P : Prop} (h : hp_b o K = some r) (k : ∀ v σ', o = some (v, σ') → K v σ' = some r → P) : P := by
  obtain ⟨v, σ', h1, h2⟩ := hp_b_to h
  exact k v σ' h1 h2
/-- a new cell: its address, and the heap with it -/
def hp_nw {β : Type} (σ : hp_H) (v : hp_V) (k : Nat → hp_H → Option β) : Option β := k σ.2 (hp_add σ v)
section HPM
variable {p : Program} {l : Launch} {e : Env} {R : Room} {s : State} {m : MethodId} {args : Array Value} {below : List Frame} {meth : Method} {c : Code} {H : Heap} {locs : List Loc} {cells slots : Nat} {Q : State → Prop}
variable {cc : ByteArray} {pc nL : Nat} {ls : Array Slot} {rest : List Value} {G : hp_G} {b : Nat} {H0 : Heap} {σ : hp_H} {own : String} {α : Type} {out : α} {a : Nat}
theorem hp_newO (hX : hp_X G p s m c args cc nL own) (hR : hp_R G b H0 σ H locs) {C : String} {T : u_T} {N ci index : Nat} (hc : vwCl[ci]? = some (C, T, N)) (hin : ∀ w ∈ u_ws C T N, w ∈ wsA) {ty0 : Nat → FieldType} (hty : ∀ k, k < N → parseFieldDescriptor (T k).2.2.1 = some (ty0 k)) (hcl : Cond.classLink own index C ∈ wsA) (hinst : Cond.instantiable C N ∈ wsA) (hini : Cond.initialized C ∈ wsA) {fs : List Value} (hfs : (List.range N).all (fun j => decide (defaultValue (ty0 j) = vp_V fs j)) = true) (hcells : cells + 1 ≤ R.cells) (hslots : slots + N ≤ R.slots) (hdg : decode cc pc = .ok (.new index, 3)) {K : Nat → hp_H → Option α} (h : hp_nw σ (.inl (ci, fs)) K = some out)
    (kk : ∀ (q : Nat) (σ' : hp_H) (H1 : Heap), K q σ' = some out → hp_R G b H0 σ' H1 locs → W p l e R s m args below meth c H1 locs (cells + 1) (slots + N) Q (F0 m (pc + 3) ls (.ref q :: rest))) : W p l e R s m args below meth c H locs cells slots Q (F0 m pc ls rest) :=
  hp_new hX hR hc hin hty hcl hinst hini (fun j hj => of_decide_eq_true (List.all_eq_true.mp hfs j (List.mem_range.mpr hj))) hcells hslots hdg (fun H1 hR1 => kk _ _ H1 h hR1)
theorem hp_newI (hX : hp_X G p s m c args cc nL own) (hR : hp_R G b H0 σ H locs) {n : Int32} (N : Nat) (harr : Cond.arrayClass .int ∈ wsA) (hn : ¬ n < 0) (hN : n.toNatClampNeg = N) (hbytes : N * componentBytes .int ≤ 536870912) (hcells : cells + 1 ≤ R.cells) (hslots : slots + N ≤ R.slots) (hdg : decode cc pc = .ok (.newarray .int, 2)) {K : Nat → hp_H → Option α} (h : hp_nw σ (.inr (.inl (0, N, fun _ => 0))) K = some out)
    (kk : ∀ (q : Nat) (σ' : hp_H) (H1 : Heap), K q σ' = some out → hp_R G b H0 σ' H1 locs → W p l e R s m args below meth c H1 locs (cells + 1) (slots + N) Q (F0 m (pc + 2) ls (.ref q :: rest))) : W p l e R s m args below meth c H locs cells slots Q (F0 m pc ls (.int n :: rest)) :=
  hp_newa hX hR (atype := .int) 0 (ty := .int) rfl rfl rfl rfl harr N hn hN hbytes hcells hslots hdg (fun H1 hR1 => kk _ _ H1 h hR1)
theorem hp_newZ (hX : hp_X G p s m c args cc nL own) (hR : hp_R G b H0 σ H locs) {n : Int32} (N : Nat) (harr : Cond.arrayClass .boolean ∈ wsA) (hn : ¬ n < 0) (hN : n.toNatClampNeg = N) (hbytes : N * componentBytes .boolean ≤ 536870912) (hcells : cells + 1 ≤ R.cells) (hslots : slots + N ≤ R.slots) (hdg : decode cc pc = .ok (.newarray .boolean, 2)) {K : Nat → hp_H → Option α} (h : hp_nw σ (.inr (.inl (1, N, fun _ => 0))) K = some out)
    (kk : ∀ (q : Nat) (σ' : hp_H) (H1 : Heap), K q σ' = some out → hp_R G b H0 σ' H1 locs → W p l e R s m args below meth c H1 locs (cells + 1) (slots + N) Q (F0 m (pc + 2) ls (.ref q :: rest))) : W p l e R s m args below meth c H locs cells slots Q (F0 m pc ls (.int n :: rest)) :=
  hp_newa hX hR (atype := .boolean) 1 (ty := .boolean) rfl rfl rfl rfl harr N hn hN hbytes hcells hslots hdg (fun H1 hR1 => kk _ _ H1 h hR1)
theorem hp_newR (hX : hp_X G p s m c args cc nL own) (hR : hp_R G b H0 σ H locs) {C : String} (t : Nat) {index : Nat} (ht : (hp_tys G)[t]? = some (G.2 t, .object C)) (hov : C ∈ hp_over) (hcl : Cond.classLink own index C ∈ wsA) {n : Int32} (N : Nat) (hn : ¬ n < 0) (hN : n.toNatClampNeg = N) (hbytes : N * 4 ≤ 536870912) (hcells : cells + 1 ≤ R.cells) (hslots : slots + N ≤ R.slots) (hdg : decode cc pc = .ok (.anewarray index, 3)) {K : Nat → hp_H → Option α} (h : hp_nw σ (.inr (.inr (t, N, fun _ => none))) K = some out)
    (kk : ∀ (q : Nat) (σ' : hp_H) (H1 : Heap), K q σ' = some out → hp_R G b H0 σ' H1 locs → W p l e R s m args below meth c H1 locs (cells + 1) (slots + N) Q (F0 m (pc + 3) ls (.ref q :: rest))) : W p l e R s m args below meth c H locs cells slots Q (F0 m pc ls (.int n :: rest)) :=
  hp_newq hX hR t ht hov hcl N hn hN hbytes hcells hslots hdg (fun H1 hR1 => kk _ _ H1 h hR1)
/-- the ends of a method that writes nothing -/
theorem hp_iretP {v out : Int32} (hX : hp_X G p s m c args cc nL own) (hlocks : meth.locks = false) (hr : meth.sig.returnType = some .int) (hR : hp_R G b s.heap σ H locs) (h : some v = some out) (hdg : decode cc pc = .ok (.ireturn, 1)) :
    W p l e R s m args below meth c H locs cells slots (MQ below (hp_Qc G b (some (.int out)) σ) args s cells slots (fun q => b ≤ q)) (F0 m pc ls [.int v]) := hp_iret (out := (out, σ)) hX hlocks hr hR (by rw [Option.some.inj h]) hdg
theorem hp_zretP {v out : Int32} (hX : hp_X G p s m c args cc nL own) (hlocks : meth.locks = false) (hr : meth.sig.returnType = some .boolean) (hR : hp_R G b s.heap σ H locs) (h : hp_z v (some v) = some out) (hdg : decode cc pc = .ok (.ireturn, 1)) :
    W p l e R s m args below meth c H locs cells slots (MQ below (hp_Qc G b (some (.int out)) σ) args s cells slots (fun q => b ≤ q)) (F0 m pc ls [.int v]) := by
  obtain ⟨hz, h⟩ := hp_z_to h
  cases h
  exact hp_zret (out := (v, σ)) hX hlocks hr hR (by unfold hp_z; rw [if_pos hz]) hdg
theorem hp_zretL {out : Int32 × hp_H} {v : Int32} (hz : v = 0 ∨ v = 1) (hX : hp_X G p s m c args cc nL own) (hlocks : meth.locks = false) (hr : meth.sig.returnType = some .boolean) (hR : hp_R G b s.heap σ H locs) (h : some (v, σ) = some out) (hdg : decode cc pc = .ok (.ireturn, 1)) :
    W p l e R s m args below meth c H locs cells slots (MQ below (hp_Qc G b (some (.int out.1)) out.2) args s cells slots (fun q => b ≤ q)) (F0 m pc ls [.int v]) := hp_zret hX hlocks hr hR (by unfold hp_z; rw [if_pos hz]; exact h) hdg
theorem hp_zretLP {v out : Int32} (hz : v = 0 ∨ v = 1) (hX : hp_X G p s m c args cc nL own) (hlocks : meth.locks = false) (hr : meth.sig.returnType = some .boolean) (hR : hp_R G b s.heap σ H locs) (h : some v = some out) (hdg : decode cc pc = .ok (.ireturn, 1)) :
    W p l e R s m args below meth c H locs cells slots (MQ below (hp_Qc G b (some (.int out)) σ) args s cells slots (fun q => b ≤ q)) (F0 m pc ls [.int v]) := hp_zretP hX hlocks hr hR (by unfold hp_z; rw [if_pos hz]; exact h) hdg
theorem hp_aretP {v out : Nat} {C : String} (hX : hp_X G p s m c args cc nL own) (hlocks : meth.locks = false) (hr : meth.sig.returnType = some (.object C)) (hR : hp_R G b s.heap σ H locs) (h : some v = some out) (hdg : decode cc pc = .ok (.areturn, 1)) :
    W p l e R s m args below meth c H locs cells slots (MQ below (hp_Qc G b (some (.ref out)) σ) args s cells slots (fun q => b ≤ q)) (F0 m pc ls [.ref v]) := hp_aret (out := (out, σ)) hX hlocks hr hR (by rw [Option.some.inj h]) hdg
theorem hp_obj0 (hX : hp_X G p s m c args cc nL own) {idx : Nat} (hl : Cond.methodLink own idx Lib.objectInit ∈ wsA) (hi : Cond.instanceMethod Lib.objectInit ∈ wsA) (hc : Cond.code Lib.objectInit ⟨#[0xb1]⟩ 1 none ∈ wsA) (hsize : ls.size = nL) (hdg : decode cc pc = .ok (.invokespecial idx, 3)) (hframes : 1 ≤ R.frames) (hlocals : (rest.map fun v => v.category).sum + 12 ≤ R.locals) (kk : W p l e R s m args below meth c H locs cells slots Q (F0 m (pc + 3) ls rest)) : W p l e R s m args below meth c H locs cells slots Q (F0 m pc ls (.ref a :: rest)) := by
  obtain ⟨⟨hx, hb, hml, hown, hts⟩, hK⟩ := hX
  exact W.objInit hx hb hown (hts _ hl) (hts _ hi) (hts _ hc) rfl (by rw [hml]; exact hsize) rfl hdg hframes (by show 2 * 0 + _ + 12 ≤ _; omega) kk
end HPM
/-- the same for a member of the JDK that the machine has no entry for -/
theorem hp_metF {l : Launch} {y : MethodName} {bytes : ByteArray} {maxL mc ms : Nat} {ret : Option FieldType} {rm : Room} {G : hp_G} {b : Nat} {σ σ' : hp_H} {rv : Option Value} {as : List Value} (hy : plainFor y = true) (hlen : (lg_sl as).length ≤ maxL)
    (body : ∀ (p : Program) (e : Env) (s : State) (m : MethodId) (below : List Frame) (meth : Method) (c : Code) (ls : Array Slot), hp_X G p s m c as.toArray bytes maxL y.cls → meth.locks = false → meth.sig.returnType = ret → meth.name = y.name → lv_has ls maxL (lv_args 0 as) → hp_R G b s.heap σ s.heap [] →
      W p l e rm s m as.toArray below meth c s.heap [] 0 0 (MQ below (hp_Qc G b rv σ') as.toArray s mc ms (fun q => b ≤ q)) (F0 m 0 ls [])) : hp_Met l y bytes maxL ret rm G b as σ rv σ' mc ms := by
  refine va_MetF (cc := bytes) (maxL := maxL) (ret := ret) hy rfl ?_
  intro p e s m args below meth c s₁ B hml hv
  obtain ⟨rfl, hB, hK⟩ := hv
  have hts := atoms_spec (ws := Cond.code y bytes maxL ret :: wsA) B.pre
  have hl := lv_entry as (n := maxL) hlen
  rw [lg_entry_eq]
  exact body p e s m below meth c _ ⟨⟨B.exec, B.bytes, hml, findClass_of_methodNamed B.named, fun w hw => hts w (List.mem_cons_of_mem _ hw)⟩, hK⟩ B.notSynchronized B.returns (name_of_methodNamed B.named B.method).1 hl ⟨hB, va_S.rf⟩
/-- how often a loop may run: far above what any run needs; taken as a name, for the kernel unrolls a written number -/
def hp_F : Nat := 5000
theorem hp_fu (k : Nat) (h : k ≤ 5000) : ∃ n, hp_F = n + k := ⟨5000 - k, by unfold hp_F; omega⟩
end
section
/-! ===== numbers: Int32 through Nat ===== -/
theorem il_0 : (0 : Int32) = nI 0 := rfl
theorem il_1 : (1 : Int32) = nI 1 := rfl
theorem il_2 : (2 : Int32) = nI 2 := rfl
theorem il_3 : (3 : Int32) = nI 3 := rfl
theorem il_4 : (4 : Int32) = nI 4 := rfl
theorem il_5 : (5 : Int32) = nI 5 := rfl
theorem il_6 : (6 : Int32) = nI 6 := rfl
theorem il_7 : (7 : Int32) = nI 7 := rfl
theorem il_8 : (8 : Int32) = nI 8 := rfl
theorem il_9 : (9 : Int32) = nI 9 := rfl
theorem il_10 : (10 : Int32) = nI 10 := rfl
theorem il_11 : (11 : Int32) = nI 11 := rfl
theorem il_12 : (12 : Int32) = nI 12 := rfl
theorem il_16 : (16 : Int32) = nI 16 := rfl
theorem il_17 : (17 : Int32) = nI 17 := rfl
theorem il_20 : (20 : Int32) = nI 20 := rfl
theorem il_25 : (25 : Int32) = nI 25 := rfl
theorem il_54 : (54 : Int32) = nI 54 := rfl
theorem il_170 : (170 : Int32) = nI 170 := rfl
theorem il_256 : (256 : Int32) = nI 256 := rfl
theorem il_257 : (257 : Int32) = nI 257 := rfl
theorem il_3840 : (3840 : Int32) = nI 3840 := rfl
theorem fo_or (a b : Nat) : nI a ||| nI b = nI (a ||| b) := by
  apply Int32.toBitVec_inj.1
  show BitVec.ofNat 32 a ||| BitVec.ofNat 32 b = BitVec.ofNat 32 (a ||| b)
  apply BitVec.eq_of_getLsbD_eq
  intro i hi
  simp [hi]
theorem fo_ors {a k : Nat} (b : Nat) (h : a < 2 ^ k) : nI (2 ^ k * b) ||| nI a = nI (2 ^ k * b + a) := by rw [fo_or, Nat.two_pow_add_eq_or_of_lt h]
theorem fo_lt (a b : Int32) : a < b ↔ a.toInt < b.toInt := Int32.lt_iff_toInt_lt
theorem fo_le (a b : Int32) : a ≤ b ↔ a.toInt ≤ b.toInt := Int32.le_iff_toInt_le
theorem fo_eq (a b : Int32) : a = b ↔ a.toInt = b.toInt := Int32.toInt_inj.symm
/-- a number within bounds, as a Nat -/
theorem fo_nat {x : Int32} (h : 0 ≤ x) : x = nI x.toNatClampNeg ∧ x.toNatClampNeg < 2 ^ 31 ∧ (x.toNatClampNeg : Int) = x.toInt := by
  obtain ⟨j, hj, e⟩ := nI_of (x := x) (fun hn => by rw [fo_lt] at hn; rw [fo_le] at h; omega)
  rw [e, nI_clamp hj, nI_toInt hj]
  exact ⟨rfl, hj, rfl⟩
/-! ===== boxes: a number of six digits of base 16 ===== -/
def d0 (N : Nat) : Nat := N / 1048576 % 16
def d1 (N : Nat) : Nat := N / 65536 % 16
def d2 (N : Nat) : Nat := N / 4096 % 16
def d3 (N : Nat) : Nat := N / 256 % 16
def d4 (N : Nat) : Nat := N / 16 % 16
def d5 (N : Nat) : Nat := N % 16
def mk6 (a b c d e f : Nat) : Nat := a * 1048576 + b * 65536 + c * 4096 + d * 256 + e * 16 + f
theorem mk6_d {a b c d e f : Nat} (ha : a < 16) (hb : b < 16) (hc : c < 16) (hd : d < 16) (he : e < 16) (hf : f < 16) : d0 (mk6 a b c d e f) = a ∧ d1 (mk6 a b c d e f) = b ∧ d2 (mk6 a b c d e f) = c ∧ d3 (mk6 a b c d e f) = d ∧ d4 (mk6 a b c d e f) = e ∧ d5 (mk6 a b c d e f) = f ∧ mk6 a b c d e f < 16777216 := by
  unfold d0 d1 d2 d3 d4 d5 mk6
  omega
theorem mk6_of {N : Nat} (h : N < 16777216) : N = mk6 (d0 N) (d1 N) (d2 N) (d3 N) (d4 N) (d5 N) := by
  unfold d0 d1 d2 d3 d4 d5 mk6
  omega
theorem d_lt (N : Nat) : d0 N < 16 ∧ d1 N < 16 ∧ d2 N < 16 ∧ d3 N < 16 ∧ d4 N < 16 ∧ d5 N < 16 := by
  unfold d0 d1 d2 d3 d4 d5
  omega
/-- a box as the document has them -/
def vb (N : Nat) : Prop := N < 16777216 ∧ (d0 N ≤ d1 N ∧ d1 N ≤ 9) ∧ (d2 N ≤ d3 N ∧ d3 N ≤ 9) ∧ (d4 N ≤ d5 N ∧ d5 N ≤ 9)
def cov (o i : Nat) : Bool := decide ((d0 o ≤ d0 i ∧ d1 i ≤ d1 o) ∧ (d2 o ≤ d2 i ∧ d3 i ≤ d3 o) ∧ (d4 o ≤ d4 i ∧ d5 i ≤ d5 o))
def siz (N : Nat) : Nat := (d1 N + 1 - d0 N) * (d3 N + 1 - d2 N) * (d5 N + 1 - d4 N)
def com (a b : Nat) : Nat := (min (d1 a) (d1 b) + 1 - max (d0 a) (d0 b)) * (min (d3 a) (d3 b) + 1 - max (d2 a) (d2 b)) * (min (d5 a) (d5 b) + 1 - max (d4 a) (d4 b))
def jn (a b : Nat) : Nat := mk6 (min (d0 a) (d0 b)) (max (d1 a) (d1 b)) (min (d2 a) (d2 b)) (max (d3 a) (d3 b)) (min (d4 a) (d4 b)) (max (d5 a) (d5 b))
def wst (a b : Nat) : Nat := siz (jn a b) + com a b - (siz a + siz b)
theorem jn_d (a b : Nat) : d0 (jn a b) = min (d0 a) (d0 b) ∧ d1 (jn a b) = max (d1 a) (d1 b) ∧ d2 (jn a b) = min (d2 a) (d2 b) ∧ d3 (jn a b) = max (d3 a) (d3 b) ∧ d4 (jn a b) = min (d4 a) (d4 b) ∧ d5 (jn a b) = max (d5 a) (d5 b) ∧ jn a b < 16777216 := by
  have ha := d_lt a
  have hb := d_lt b
  exact mk6_d (by omega) (by omega) (by omega) (by omega) (by omega) (by omega)
theorem jn_vb {a b : Nat} (ha : vb a) (hb : vb b) : vb (jn a b) := by
  obtain ⟨e0, e1, e2, e3, e4, e5, e6⟩ := jn_d a b
  unfold vb at *
  rw [e0, e1, e2, e3, e4, e5]
  omega
theorem cov_iff (o i : Nat) : cov o i = true ↔ ((d0 o ≤ d0 i ∧ d1 i ≤ d1 o) ∧ (d2 o ≤ d2 i ∧ d3 i ≤ d3 o) ∧ (d4 o ≤ d4 i ∧ d5 i ≤ d5 o)) := by
  unfold cov
  simp
theorem cov_jn (a b : Nat) : cov (jn a b) a = true ∧ cov (jn a b) b = true := by
  obtain ⟨e0, e1, e2, e3, e4, e5, e6⟩ := jn_d a b
  rw [cov_iff, cov_iff, e0, e1, e2, e3, e4, e5]
  omega
theorem cov_tr {a b c : Nat} (h : cov a b = true) (h2 : cov b c = true) : cov a c = true := by
  rw [cov_iff] at *
  omega
theorem cov_rf (a : Nat) : cov a a = true := by
  rw [cov_iff]
  omega
/-- one more dimension: what is joined is at least what there is of both -/
theorem ws_dim {A B C J a b c j : Nat} (h1 : A + B ≤ J + C) (h2 : C ≤ A) (h3 : C ≤ B) (h4 : a + b ≤ j + c) (h5 : c ≤ a) (h6 : c ≤ b) (h7 : a ≤ j) (h8 : b ≤ j) : A * a + B * b ≤ J * j + C * c := by
  obtain ⟨x, rfl⟩ : ∃ x, A = C + x := ⟨A - C, by omega⟩
  obtain ⟨y, rfl⟩ : ∃ y, B = C + y := ⟨B - C, by omega⟩
  obtain ⟨u, rfl⟩ : ∃ u, a = c + u := ⟨a - c, by omega⟩
  obtain ⟨v, rfl⟩ : ∃ v, b = c + v := ⟨b - c, by omega⟩
  obtain ⟨z, rfl⟩ : ∃ z, J = C + x + y + z := ⟨J - (C + x + y), by omega⟩
  obtain ⟨w, rfl⟩ : ∃ w, j = c + u + v + w := ⟨j - (c + u + v), by omega⟩
  simp only [Nat.add_mul, Nat.mul_add]
  omega
theorem dim_one {l1 h1 l2 h2 : Nat} (k1 : l1 ≤ h1) (k2 : l2 ≤ h2) : (h1 + 1 - l1) + (h2 + 1 - l2) ≤ (max h1 h2 + 1 - min l1 l2) + (min h1 h2 + 1 - max l1 l2) ∧ (min h1 h2 + 1 - max l1 l2) ≤ (h1 + 1 - l1) ∧ (min h1 h2 + 1 - max l1 l2) ≤ (h2 + 1 - l2) ∧ (h1 + 1 - l1) ≤ (max h1 h2 + 1 - min l1 l2) ∧ (h2 + 1 - l2) ≤ (max h1 h2 + 1 - min l1 l2) := by
  omega
theorem wst_le {a b : Nat} (ha : vb a) (hb : vb b) : siz a + siz b ≤ siz (jn a b) + com a b := by
  obtain ⟨e0, e1, e2, e3, e4, e5, e6⟩ := jn_d a b
  obtain ⟨-, ⟨a1, -⟩, ⟨a2, -⟩, ⟨a3, -⟩⟩ := ha
  obtain ⟨-, ⟨b1, -⟩, ⟨b2, -⟩, ⟨b3, -⟩⟩ := hb
  unfold siz com
  rw [e0, e1, e2, e3, e4, e5]
  obtain ⟨p1, p2, p3, p4, p5⟩ := dim_one a1 b1
  obtain ⟨q1, q2, q3, q4, q5⟩ := dim_one a2 b2
  obtain ⟨r1, r2, r3, r4, r5⟩ := dim_one a3 b3
  exact ws_dim (ws_dim p1 p2 p3 q1 q2 q3 q4 q5) (Nat.mul_le_mul p2 q2) (Nat.mul_le_mul p3 q3) r1 r2 r3 r4 r5
theorem siz_le {N : Nat} : siz N ≤ 4096 := by
  obtain ⟨h0, h1, h2, h3, h4, h5⟩ := d_lt N
  have k1 : d1 N + 1 - d0 N ≤ 16 := by omega
  have k2 : d3 N + 1 - d2 N ≤ 16 := by omega
  have k3 : d5 N + 1 - d4 N ≤ 16 := by omega
  exact Nat.mul_le_mul (Nat.mul_le_mul k1 k2) k3
theorem com_le (a b : Nat) : com a b ≤ 4096 := by
  obtain ⟨h0, h1, h2, h3, h4, h5⟩ := d_lt a
  have k1 : min (d1 a) (d1 b) + 1 - max (d0 a) (d0 b) ≤ 16 := by omega
  have k2 : min (d3 a) (d3 b) + 1 - max (d2 a) (d2 b) ≤ 16 := by omega
  have k3 : min (d5 a) (d5 b) + 1 - max (d4 a) (d4 b) ≤ 16 := by omega
  exact Nat.mul_le_mul (Nat.mul_le_mul k1 k2) k3
theorem wst_lt (a b : Nat) : wst a b < 2 ^ 30 := by
  have h1 := @siz_le (jn a b)
  have h2 := com_le a b
  unfold wst
  omega
end
section
/-! ===== lists of boxes: a box comes; two are joined; as many as may be told ===== -/
/-- where a box goes, from the end on: behind the last that isn't above it -/
def insP (x : Nat) (l : List Nat) : Nat → Nat
  | 0 => 0
  | k + 1 => if x < l.getD k 0 then insP x l k else k + 1
def insR (x : Nat) (l : List Nat) : List Nat := l.take (insP x l l.length) ++ x :: l.drop (insP x l l.length)
def addB (x : Nat) (l : List Nat) : List Nat := if l.any (fun y => cov y x) = true then l else insR x (l.filter (fun y => !cov x y))
/-- the pair by which least is wasted: its waste, its places; none yet: 2147483647, 0, 1 -/
def stepJ (l : List Nat) (acc : Nat × Nat × Nat) (i j : Nat) : Nat × Nat × Nat := if wst (l.getD i 0) (l.getD j 0) < acc.1 then (wst (l.getD i 0) (l.getD j 0), i, j) else acc
def jIn (l : List Nat) (i : Nat) : Nat → Nat → Nat × Nat × Nat → Nat × Nat × Nat
  | 0, _, acc => acc
  | m + 1, j, acc => jIn l i m (j + 1) (stepJ l acc i j)
def jOut (l : List Nat) : Nat → Nat → Nat × Nat × Nat → Nat × Nat × Nat
  | 0, _, acc => acc
  | m + 1, i, acc => jOut l m (i + 1) (jIn l i (l.length - (i + 1)) (i + 1) acc)
def bestP (l : List Nat) : Nat × Nat × Nat := jOut l l.length 0 (2147483647, 0, 1)
def bestJ (l : List Nat) : Nat := jn (l.getD (bestP l).2.1 0) (l.getD (bestP l).2.2 0)
def redu (m : Nat) : Nat → List Nat → List Nat
  | 0, l => l
  | k + 1, l => if m < l.length then redu m k (addB (bestJ l) l) else l
abbrev apart (a b : Nat) : Prop := cov a b = false ∧ cov b a = false
abbrev AC (l : List Nat) : Prop := l.Pairwise apart
abbrev VB (l : List Nat) : Prop := ∀ x ∈ l, vb x
theorem insP_le (x : Nat) (l : List Nat) : ∀ k, insP x l k ≤ k
  | 0 => Nat.le_refl 0
  | k + 1 => by
    unfold insP
    split
    · exact Nat.le_succ_of_le (insP_le x l k)
    · exact Nat.le_refl _
theorem insR_len (x : Nat) (l : List Nat) : (insR x l).length = l.length + 1 := by
  have h := insP_le x l l.length
  unfold insR
  simp only [List.length_append, List.length_take, List.length_cons, List.length_drop]
  omega
theorem insR_mem {x y : Nat} {l : List Nat} : y ∈ insR x l ↔ y = x ∨ y ∈ l := by
  have h : y ∈ l ↔ y ∈ l.take (insP x l l.length) ∨ y ∈ l.drop (insP x l l.length) := by
    rw [← List.mem_append, List.take_append_drop]
  unfold insR
  rw [List.mem_append, List.mem_cons, h]
  constructor
  · rintro (h | h | h)
    · exact Or.inr (Or.inl h)
    · exact Or.inl h
    · exact Or.inr (Or.inr h)
  · rintro (h | h | h)
    · exact Or.inr (Or.inl h)
    · exact Or.inl h
    · exact Or.inr (Or.inr h)
theorem insR_ac {x : Nat} {l : List Nat} (h : AC l) (hx : ∀ y ∈ l, apart x y) : AC (insR x l) := by
  have e : l = l.take (insP x l l.length) ++ l.drop (insP x l l.length) := (List.take_append_drop _ _).symm
  generalize hk : insP x l l.length = k at e
  have h' : (l.take k ++ l.drop k).Pairwise apart := by rw [← e]; exact h
  rw [List.pairwise_append] at h'
  unfold insR
  rw [hk]
  show (l.take k ++ x :: l.drop k).Pairwise apart
  rw [List.pairwise_append, List.pairwise_cons]
  refine ⟨h'.1, ⟨fun y hy => hx y (List.mem_of_mem_drop hy), h'.2.1⟩, fun a ha b hb => ?_⟩
  rcases List.mem_cons.mp hb with rfl | hb
  · exact ⟨(hx a (List.mem_of_mem_take ha)).2, (hx a (List.mem_of_mem_take ha)).1⟩
  · exact h'.2.2 a ha b hb
theorem addB_vb {x : Nat} {l : List Nat} (hx : vb x) (h : VB l) : VB (addB x l) := by
  unfold addB
  split
  · exact h
  · intro y hy
    rcases insR_mem.mp hy with rfl | hy
    · exact hx
    · exact h y (List.mem_filter.mp hy).1
theorem addB_ac {x : Nat} {l : List Nat} (h : AC l) : AC (addB x l) := by
  unfold addB
  split
  · exact h
  · rename_i hn
    refine insR_ac (h.sublist (List.filter_sublist)) (fun y hy => ?_)
    obtain ⟨h1, h2⟩ := List.mem_filter.mp hy
    refine ⟨by simpa using h2, ?_⟩
    cases hc : cov y x with
    | false => rfl
    | true => exact absurd (List.any_eq_true.mpr ⟨y, h1, hc⟩) hn
theorem addB_len (x : Nat) (l : List Nat) : (addB x l).length ≤ l.length + 1 := by
  unfold addB
  split
  · omega
  · rw [insR_len]
    exact Nat.succ_le_succ (List.length_filter_le _ _)
/-- two at different places that go, leave at most two less -/
theorem filt_two : ∀ (l : List Nat) (p : Nat → Bool) (i j : Nat), i < j → j < l.length → p (l.getD i 0) = false → p (l.getD j 0) = false → (l.filter p).length + 2 ≤ l.length
  | [], _, _, _, _, h, _, _ => by simp at h
  | a :: l, p, i, j, hij, hj, h1, h2 => by
    cases i with
    | zero =>
      have h1 : p a = false := h1
      rw [List.filter_cons_of_neg (by rw [h1]; decide)]
      cases j with
      | zero => omega
      | succ j =>
        have h2 : p (l.getD j 0) = false := h2
        have hl : j < l.length := by simpa using hj
        have key : ∀ (l : List Nat) (j : Nat), j < l.length → p (l.getD j 0) = false → (l.filter p).length + 1 ≤ l.length := by
          intro l
          induction l with
          | nil => intro j hj; simp at hj
          | cons b l ih =>
            intro j hj hp
            cases j with
            | zero =>
              have hp : p b = false := hp
              rw [List.filter_cons_of_neg (by rw [hp]; decide)]
              exact Nat.succ_le_succ (List.length_filter_le _ _)
            | succ j =>
              have := ih j (by simpa using hj) hp
              by_cases hb : p b = true
              · rw [List.filter_cons_of_pos hb]
                simp only [List.length_cons]
                omega
              · rw [List.filter_cons_of_neg hb]
                simp only [List.length_cons]
                omega
        have := key l j hl h2
        simp only [List.length_cons]
        omega
    | succ i =>
      cases j with
      | zero => omega
      | succ j =>
        have := filt_two l p i j (by omega) (by simpa using hj) h1 h2
        by_cases hb : p a = true
        · rw [List.filter_cons_of_pos hb]
          simp only [List.length_cons]
          omega
        · rw [List.filter_cons_of_neg hb]
          simp only [List.length_cons]
          omega
/-- the best pair: two places, the first below the second -/
def okP (l : List Nat) (acc : Nat × Nat × Nat) : Prop := acc = (2147483647, 0, 1) ∨ (acc.1 = wst (l.getD acc.2.1 0) (l.getD acc.2.2 0) ∧ acc.2.1 < acc.2.2 ∧ acc.2.2 < l.length)
theorem stepJ_ok {l : List Nat} {acc : Nat × Nat × Nat} {i j : Nat} (h : okP l acc) (hij : i < j) (hj : j < l.length) : okP l (stepJ l acc i j) := by
  unfold stepJ
  split
  · exact Or.inr ⟨rfl, hij, hj⟩
  · exact h
theorem stepJ_set {l : List Nat} {acc : Nat × Nat × Nat} {i j : Nat} : (stepJ l acc i j).1 < 2147483647 := by
  have h := wst_lt (l.getD i 0) (l.getD j 0)
  unfold stepJ
  split
  · show wst _ _ < _
    omega
  · rename_i hn
    omega
theorem jIn_ok {l : List Nat} {i : Nat} : ∀ (m j : Nat) (acc : Nat × Nat × Nat), okP l acc → i < j → j + m = l.length → okP l (jIn l i m j acc)
  | 0, _, _, h, _, _ => h
  | m + 1, j, acc, h, hij, hj => by
    have h1 : okP l (stepJ l acc i j) := stepJ_ok h hij (by omega)
    unfold jIn
    generalize stepJ l acc i j = acc2 at h1 ⊢
    exact jIn_ok m (j + 1) acc2 h1 (by omega) (by omega)
theorem jIn_keep {l : List Nat} {i : Nat} : ∀ (m j : Nat) (acc : Nat × Nat × Nat), acc.1 < 2147483647 → (jIn l i m j acc).1 < 2147483647
  | 0, _, _, h => h
  | m + 1, j, acc, _ => by
    have h1 : (stepJ l acc i j).1 < 2147483647 := stepJ_set
    unfold jIn
    generalize stepJ l acc i j = acc2 at h1 ⊢
    exact jIn_keep m (j + 1) acc2 h1
theorem jIn_set {l : List Nat} {i : Nat} (m j : Nat) (acc : Nat × Nat × Nat) : (jIn l i (m + 1) j acc).1 < 2147483647 := by
  have h1 : (stepJ l acc i j).1 < 2147483647 := stepJ_set
  unfold jIn
  generalize stepJ l acc i j = acc2 at h1 ⊢
  exact jIn_keep m (j + 1) acc2 h1
theorem jOut_ok {l : List Nat} : ∀ (m i : Nat) (acc : Nat × Nat × Nat), okP l acc → i + m = l.length → okP l (jOut l m i acc)
  | 0, _, _, h, _ => h
  | m + 1, i, acc, h, hi => by
    have h1 := jIn_ok (i := i) (l.length - (i + 1)) (i + 1) acc h (by omega) (by omega)
    unfold jOut
    generalize jIn l i (l.length - (i + 1)) (i + 1) acc = acc2 at h1 ⊢
    exact jOut_ok m (i + 1) acc2 h1 (by omega)
theorem jOut_keep {l : List Nat} : ∀ (m i : Nat) (acc : Nat × Nat × Nat), acc.1 < 2147483647 → (jOut l m i acc).1 < 2147483647
  | 0, _, _, h => h
  | m + 1, i, acc, h => by
    have h1 := jIn_keep (l := l) (i := i) (l.length - (i + 1)) (i + 1) acc h
    unfold jOut
    generalize jIn l i (l.length - (i + 1)) (i + 1) acc = acc2 at h1 ⊢
    exact jOut_keep m (i + 1) acc2 h1
theorem bestP_ok {l : List Nat} (h : 2 ≤ l.length) : (bestP l).1 = wst (l.getD (bestP l).2.1 0) (l.getD (bestP l).2.2 0) ∧ (bestP l).2.1 < (bestP l).2.2 ∧ (bestP l).2.2 < l.length := by
  have h1 : okP l (bestP l) := jOut_ok l.length 0 _ (Or.inl rfl) (by omega)
  have h2 : (bestP l).1 < 2147483647 := by
    unfold bestP
    obtain ⟨m, hm⟩ : ∃ m, l.length = m + 2 := ⟨l.length - 2, by omega⟩
    rw [hm]
    show (jOut l (m + 1) 1 (jIn l 0 (l.length - (0 + 1)) (0 + 1) _)).1 < _
    rw [show l.length - (0 + 1) = m + 1 by omega]
    exact jOut_keep _ _ _ (jIn_set _ _ _)
  rcases h1 with h1 | h1
  · rw [h1] at h2
    exact absurd h2 (Nat.lt_irrefl _)
  · exact h1
theorem gd_at {l : List Nat} {i : Nat} (h : i < l.length) : l.getD i 0 = l[i] := (List.getElem_eq_getD 0).symm
theorem getD_mem {l : List Nat} {i : Nat} (h : i < l.length) : l.getD i 0 ∈ l := by
  rw [gd_at h]
  exact List.getElem_mem h
theorem bestJ_vb {l : List Nat} (hv : VB l) (h : 2 ≤ l.length) : vb (bestJ l) := by
  obtain ⟨-, h1, h2⟩ := bestP_ok h
  exact jn_vb (hv _ (getD_mem (by omega))) (hv _ (getD_mem h2))
theorem ac_at {l : List Nat} (h : AC l) {i j : Nat} (hij : i < j) (hj : j < l.length) : apart (l.getD i 0) (l.getD j 0) := by
  rw [gd_at (by omega : i < l.length), gd_at hj]
  exact List.pairwise_iff_getElem.mp h i j (by omega) hj hij
theorem join_len {l : List Nat} (ha : AC l) (h : 2 ≤ l.length) : (addB (bestJ l) l).length < l.length := by
  obtain ⟨-, h1, h2⟩ := bestP_ok h
  have hc := cov_jn (l.getD (bestP l).2.1 0) (l.getD (bestP l).2.2 0)
  have hab := ac_at ha h1 h2
  unfold addB
  split
  · rename_i hany
    obtain ⟨y, hy, hcy⟩ := List.any_eq_true.mp hany
    have c1 := cov_tr hcy hc.1
    have c2 := cov_tr hcy hc.2
    obtain ⟨k, hk, rfl⟩ := List.mem_iff_getElem.mp hy
    have ek : l[k] = l.getD k 0 := (gd_at hk).symm
    rw [ek] at c1 c2
    rcases Nat.lt_trichotomy k (bestP l).2.1 with h3 | h3 | h3
    · have := (ac_at ha h3 (by omega)).1
      rw [c1] at this
      cases this
    · rw [h3] at c2
      have := hab.1
      rw [c2] at this
      cases this
    · have := (ac_at ha h3 hk).2
      rw [c1] at this
      cases this
  · rw [insR_len]
    have := filt_two l (fun y => !cov (bestJ l) y) _ _ h1 h2 (by simp only [Bool.not_eq_false']; exact hc.1) (by simp only [Bool.not_eq_false']; exact hc.2)
    omega
theorem redu_ok (m : Nat) (hm : 1 ≤ m) : ∀ (k : Nat) (l : List Nat), AC l → VB l → l.length ≤ k + m → AC (redu m k l) ∧ VB (redu m k l) ∧ (redu m k l).length ≤ m ∧ (redu m k l).length ≤ l.length
  | 0, l, ha, hv, h => ⟨ha, hv, by unfold redu; omega, Nat.le_refl _⟩
  | k + 1, l, ha, hv, h => by
    unfold redu
    split
    · have hl := join_len ha (by omega)
      obtain ⟨r1, r2, r3, r4⟩ := redu_ok m hm k (addB (bestJ l) l) (addB_ac ha) (addB_vb (bestJ_vb hv (by omega)) hv) (by omega)
      exact ⟨r1, r2, r3, by omega⟩
    · exact ⟨ha, hv, by omega, Nat.le_refl _⟩
/-- more turns change nothing -/
theorem redu_more (m : Nat) (hm : 1 ≤ m) : ∀ (k k' : Nat) (l : List Nat), AC l → l.length ≤ k + m → k ≤ k' → redu m k' l = redu m k l
  | 0, k', l, ha, h, hk => by
    cases k' with
    | zero => rfl
    | succ k' =>
      unfold redu
      rw [if_neg (by omega)]
  | k + 1, k', l, ha, h, hk => by
    cases k' with
    | zero => omega
    | succ k' =>
      unfold redu
      split
      · have hl := join_len ha (by omega)
        exact redu_more m hm k k' _ (addB_ac ha) (by omega) (by omega)
      · rfl
def adds (xs l : List Nat) : List Nat := xs.foldl (fun l x => addB x l) l
theorem adds_ok : ∀ (xs l : List Nat), AC l → VB l → VB xs → AC (adds xs l) ∧ VB (adds xs l) ∧ (adds xs l).length ≤ l.length + xs.length
  | [], l, h1, h2, _ => ⟨h1, h2, Nat.le_refl _⟩
  | x :: xs, l, h1, h2, h3 => by
    obtain ⟨a, b, c⟩ := adds_ok xs (addB x l) (addB_ac h1) (addB_vb (h3 x List.mem_cons_self) h2) (fun y hy => h3 y (List.mem_cons_of_mem _ hy))
    have := addB_len x l
    exact ⟨a, b, by show (adds xs (addB x l)).length ≤ l.length + (xs.length + 1); omega⟩
theorem adds_app (xs ys l : List Nat) : adds (xs ++ ys) l = adds ys (adds xs l) := by
  unfold adds
  exact List.foldl_append
end
section
/-! ===== what is told on over all links, of a tree of brokers ===== -/
def sumTo (f : Nat → Nat) : Nat → Nat
  | 0 => 0
  | n + 1 => sumTo f n + f n
theorem sumTo_le {f g : Nat → Nat} : ∀ (n : Nat), (∀ k, k < n → f k ≤ g k) → sumTo f n ≤ sumTo g n
  | 0, _ => Nat.le_refl _
  | n + 1, h => Nat.add_le_add (sumTo_le n (fun k hk => h k (by omega))) (h n (by omega))
theorem sumTo_eq {f g : Nat → Nat} : ∀ (n : Nat), (∀ k, k < n → f k = g k) → sumTo f n = sumTo g n
  | 0, _ => rfl
  | n + 1, h => by
    unfold sumTo
    rw [sumTo_eq n (fun k hk => h k (by omega)), h n (by omega)]
theorem sumTo_add (f g : Nat → Nat) : ∀ (n : Nat), sumTo (fun k => f k + g k) n = sumTo f n + sumTo g n
  | 0 => rfl
  | n + 1 => by
    unfold sumTo
    rw [sumTo_add f g n]
    omega
theorem sumTo_zero : ∀ (n : Nat), sumTo (fun _ => 0) n = 0
  | 0 => rfl
  | n + 1 => by
    unfold sumTo
    rw [sumTo_zero n]
theorem sumTo_one (a c : Nat) : ∀ (n : Nat), sumTo (fun k => if k = a then c else 0) n = if a < n then c else 0
  | 0 => by rw [if_neg (by omega)]; rfl
  | n + 1 => by
    unfold sumTo
    rw [sumTo_one a c n]
    by_cases h : n = a
    · rw [if_pos h, if_neg (by omega), if_pos (by omega)]
      omega
    · rw [if_neg h]
      by_cases h2 : a < n
      · rw [if_pos h2, if_pos (by omega)]
        omega
      · rw [if_neg h2, if_neg (by omega)]
theorem sumTo_swap (f : Nat → Nat → Nat) (m : Nat) : ∀ (n : Nat), sumTo (fun i => sumTo (fun j => f i j) m) n = sumTo (fun j => sumTo (fun i => f i j) n) m
  | 0 => (sumTo_zero m).symm
  | n + 1 => by
    show sumTo (fun i => sumTo (fun j => f i j) m) n + sumTo (fun j => f n j) m = sumTo (fun j => sumTo (fun i => f i j) n + f n j) m
    rw [sumTo_swap f m n, sumTo_add]
theorem sumTo_pt {f : Nat → Nat} : ∀ (n k : Nat), k < n → f k ≤ sumTo f n
  | 0, _, h => by omega
  | n + 1, k, h => by
    unfold sumTo
    by_cases hk : k = n
    · subst hk
      omega
    · have := sumTo_pt (f := f) n k (by omega)
      omega
theorem flat_len (g : Nat → List Nat) : ∀ (n : Nat), ((List.range n).flatMap g).length = sumTo (fun k => (g k).length) n
  | 0 => rfl
  | n + 1 => by
    rw [List.range_succ, List.flatMap_append, List.length_append, flat_len g n]
    simp [sumTo]
def nbr (ab : Nat → Nat) (x y : Nat) : Prop := (x ≠ 0 ∧ ab x = y) ∨ (y ≠ 0 ∧ ab y = x)
def nbrb (ab : Nat → Nat) (x y : Nat) : Bool := decide ((x ≠ 0 ∧ ab x = y) ∨ (y ≠ 0 ∧ ab y = x))
theorem nbrb_iff {ab : Nat → Nat} {x y : Nat} : nbrb ab x y = true ↔ nbr ab x y := by unfold nbrb nbr; simp
def lnk (ab : Nat → Nat) (x y : Nat) : Nat := if x ≠ 0 ∧ ab x = y then 2 * x else 2 * y + 1
/-- what one neighbour tells on to x, but y -/
def hrd (ab : Nat → Nat) (tab : Nat → List Nat) (x y n : Nat) : List Nat := if n ≠ y ∧ nbrb ab n x = true then tab (lnk ab n x) else []
def inps (B : Nat) (ab : Nat → Nat) (wl tab : Nat → List Nat) (x y : Nat) : List Nat := wl x ++ (List.range B).flatMap (hrd ab tab x y)
def gth (B m : Nat) (ab : Nat → Nat) (wl tab : Nat → List Nat) (x y : Nat) : List Nat := redu m 12 (adds (inps B ab wl tab x y) [])
def lay (B m : Nat) (ab : Nat → Nat) (wl tab : Nat → List Nat) (x y : Nat) : Nat → List Nat := fun k => if k = lnk ab x y then gth B m ab wl tab x y else tab k
def upP (B m : Nat) (ab : Nat → Nat) (wl : Nat → List Nat) : Nat → (Nat → List Nat) → Nat → List Nat
  | 0, t => t
  | b + 1, t => upP B m ab wl b (lay B m ab wl t (b + 1) (ab (b + 1)))
def dnP (B m : Nat) (ab : Nat → Nat) (wl : Nat → List Nat) : Nat → Nat → (Nat → List Nat) → Nat → List Nat
  | 0, _, t => t
  | c + 1, b, t => dnP B m ab wl c (b + 1) (lay B m ab wl t (ab b) b)
def pass (B m : Nat) (ab : Nat → Nat) (wl t : Nat → List Nat) : Nat → List Nat := dnP B m ab wl (B - 1) 1 (upP B m ab wl (B - 1) t)
section NET
variable {B m : Nat} {ab : Nat → Nat} {wl : Nat → List Nat}
theorem lnk_up {b : Nat} (h : b ≠ 0) : lnk ab b (ab b) = 2 * b := by unfold lnk; rw [if_pos ⟨h, rfl⟩]
theorem lnk_dn (hT : ∀ b, b ≠ 0 → b < B → ab b < b) {b : Nat} (h : b ≠ 0) (hb : b < B) : lnk ab (ab b) b = 2 * b + 1 := by
  unfold lnk
  have h1 := hT b h hb
  rw [if_neg (fun q => by have := hT (ab b) q.1 (by omega); omega)]
theorem hrd_up (hT : ∀ b, b ≠ 0 → b < B → ab b < b) {t : Nat → List Nat} {b n : Nat} (h : b ≠ 0) (hb : b < B) (hn : n < B) : hrd ab t b (ab b) n = if n ≠ 0 ∧ ab n = b then t (2 * n) else [] := by
  unfold hrd
  by_cases hc : n ≠ 0 ∧ ab n = b
  · have h1 := hT n hc.1 hn
    have h2 := hT b h hb
    rw [if_pos hc, if_pos ⟨by omega, nbrb_iff.mpr (Or.inl hc)⟩]
    unfold lnk
    rw [if_pos hc]
  · rw [if_neg hc, if_neg]
    rintro ⟨q1, q2⟩
    rcases nbrb_iff.mp q2 with q | q
    · exact hc q
    · exact q1 q.2.symm
theorem hrd_dn (hT : ∀ b, b ≠ 0 → b < B → ab b < b) {t : Nat → List Nat} {b n : Nat} (h : b ≠ 0) (hb : b < B) (hn : n < B) : hrd ab t (ab b) b n = if n ≠ 0 ∧ ab n = ab b ∧ n ≠ b then t (2 * n) else if ab b ≠ 0 ∧ n = ab (ab b) then t (2 * ab b + 1) else [] := by
  unfold hrd
  have hp := hT b h hb
  by_cases hc : n ≠ 0 ∧ ab n = ab b ∧ n ≠ b
  · rw [if_pos hc, if_pos ⟨hc.2.2, nbrb_iff.mpr (Or.inl ⟨hc.1, hc.2.1⟩)⟩]
    unfold lnk
    rw [if_pos ⟨hc.1, hc.2.1⟩]
  · rw [if_neg hc]
    by_cases hd : ab b ≠ 0 ∧ n = ab (ab b)
    · have h2 := hT (ab b) hd.1 (by omega)
      rw [if_pos hd, if_pos ⟨by omega, nbrb_iff.mpr (Or.inr ⟨hd.1, hd.2.symm⟩)⟩]
      unfold lnk
      rw [if_neg (fun q => hc ⟨q.1, q.2, by omega⟩)]
    · rw [if_neg hd, if_neg]
      rintro ⟨q1, q2⟩
      rcases nbrb_iff.mp q2 with q | q
      · exact hc ⟨q.1, q.2, q1⟩
      · exact hd ⟨q.1, q.2.symm⟩
theorem lay_at {t : Nat → List Nat} {x y : Nat} : lay B m ab wl t x y (lnk ab x y) = gth B m ab wl t x y := by unfold lay; rw [if_pos rfl]
theorem lay_ne {t : Nat → List Nat} {x y k : Nat} (h : k ≠ lnk ab x y) : lay B m ab wl t x y k = t k := by unfold lay; rw [if_neg h]
theorem flat_congr {f g : Nat → List Nat} : ∀ (n : Nat), (∀ k, k < n → f k = g k) → (List.range n).flatMap f = (List.range n).flatMap g
  | 0, _ => rfl
  | n + 1, h => by
    rw [List.range_succ, List.flatMap_append, List.flatMap_append, flat_congr n (fun k hk => h k (by omega))]
    congr 1
    simp [h n (by omega)]
/-- the lists don't depend on what stood there before -/
theorem up_same (hT : ∀ b, b ≠ 0 → b < B → ab b < b) : ∀ (k : Nat) (t1 t2 : Nat → List Nat), k < B → (∀ n, k < n → n < B → t1 (2 * n) = t2 (2 * n)) → ∀ n, 0 < n → n < B → upP B m ab wl k t1 (2 * n) = upP B m ab wl k t2 (2 * n)
  | 0, _, _, _, h, n, h1, h2 => h n h1 h2
  | k + 1, t1, t2, hk, h, n, h1, h2 => by
    unfold upP
    refine up_same hT k _ _ (by omega) (fun j hj hjB => ?_) n h1 h2
    by_cases hjk : j = k + 1
    · subst hjk
      rw [← lnk_up (ab := ab) (by omega : k + 1 ≠ 0), lay_at, lay_at]
      unfold gth inps
      rw [flat_congr B (fun i hi => ?_)]
      rw [hrd_up hT (by omega) hk hi, hrd_up hT (by omega) hk hi]
      split
      · rename_i hc
        have := hT i hc.1 hi
        rw [h i (by omega) hi]
      · rfl
    · rw [lay_ne (by rw [lnk_up (by omega)]; omega), lay_ne (by rw [lnk_up (by omega)]; omega)]
      exact h j (by omega) hjB
theorem dn_same (hT : ∀ b, b ≠ 0 → b < B → ab b < b) : ∀ (c b : Nat) (t1 t2 : Nat → List Nat), 0 < b → b + c ≤ B → (∀ n, 0 < n → n < B → t1 (2 * n) = t2 (2 * n)) → (∀ n, 0 < n → n < b → t1 (2 * n + 1) = t2 (2 * n + 1)) → (∀ n, 0 < n → n < B → dnP B m ab wl c b t1 (2 * n) = dnP B m ab wl c b t2 (2 * n)) ∧ (∀ n, 0 < n → n < b + c → dnP B m ab wl c b t1 (2 * n + 1) = dnP B m ab wl c b t2 (2 * n + 1))
  | 0, _, _, _, _, _, h1, h2 => ⟨h1, h2⟩
  | c + 1, b, t1, t2, hb, hc, h1, h2 => by
    unfold dnP
    have hbB : b < B := by omega
    have hp := hT b (by omega) hbB
    have hl := lnk_dn (B := B) hT (b := b) (by omega) hbB
    have hg : gth B m ab wl t1 (ab b) b = gth B m ab wl t2 (ab b) b := by
      unfold gth inps
      rw [flat_congr B (fun i hi => ?_)]
      rw [hrd_dn hT (by omega) hbB hi, hrd_dn hT (by omega) hbB hi]
      split
      · rename_i hq
        exact h1 i (by omega) hi
      · split
        · rename_i hq
          exact h2 (ab b) (by omega) hp
        · rfl
    have := dn_same hT c (b + 1) (lay B m ab wl t1 (ab b) b) (lay B m ab wl t2 (ab b) b) (by omega) (by omega) (fun n k1 k2 => by
      rw [lay_ne (by rw [hl]; omega), lay_ne (by rw [hl]; omega)]
      exact h1 n k1 k2) (fun n k1 k2 => by
      by_cases hn : n = b
      · subst hn
        rw [← hl, lay_at, lay_at, hg]
      · rw [lay_ne (by rw [hl]; omega), lay_ne (by rw [hl]; omega)]
        exact h2 n k1 (by omega))
    refine ⟨this.1, fun n k1 k2 => this.2 n k1 (by omega)⟩
theorem pass_same (hT : ∀ b, b ≠ 0 → b < B → ab b < b) (hB : 0 < B) (t1 t2 : Nat → List Nat) : ∀ n, 0 < n → n < B → pass B m ab wl t1 (2 * n) = pass B m ab wl t2 (2 * n) ∧ pass B m ab wl t1 (2 * n + 1) = pass B m ab wl t2 (2 * n + 1) := by
  intro n h1 h2
  have hu := up_same (m := m) (wl := wl) hT (B - 1) t1 t2 (by omega) (fun n k1 k2 => by omega)
  have hd := dn_same (m := m) (wl := wl) hT (B - 1) 1 (upP B m ab wl (B - 1) t1) (upP B m ab wl (B - 1) t2) (by omega) (by omega) hu (fun n k1 k2 => by omega)
  exact ⟨hd.1 n h1 h2, hd.2 n h1 (by omega)⟩
end NET
end
section
/-! ===== no list is ever longer than all wishes ===== -/
/-- how many wishes there are at a broker and below it -/
def wu (B : Nat) (ab : Nat → Nat) (wl : Nat → List Nat) : Nat → Nat → Nat
  | 0, _ => 0
  | f + 1, b => (wl b).length + sumTo (fun n => if n ≠ 0 ∧ ab n = b then wu B ab wl f n else 0) B
def WU (B : Nat) (ab : Nat → Nat) (wl : Nat → List Nat) (b : Nat) : Nat := wu B ab wl B b
def tot (B : Nat) (wl : Nat → List Nat) : Nat := sumTo (fun b => (wl b).length) B
section ROOM
variable {B m : Nat} {ab : Nat → Nat} {wl : Nat → List Nat}
theorem wu_same (hT : ∀ b, b ≠ 0 → b < B → ab b < b) : ∀ (f g b : Nat), B ≤ f + b → B ≤ g + b → b < B → wu B ab wl f b = wu B ab wl g b
  | 0, g, b, h1, _, h3 => by omega
  | f + 1, 0, b, _, h2, h3 => by omega
  | f + 1, g + 1, b, h1, h2, h3 => by
    unfold wu
    congr 1
    refine sumTo_eq B (fun n hn => ?_)
    split
    · rename_i hc
      have := hT n hc.1 hn
      exact wu_same hT f g n (by omega) (by omega) hn
    · rfl
theorem WU_eq (hT : ∀ b, b ≠ 0 → b < B → ab b < b) {b : Nat} (hb : b < B) : WU B ab wl b = (wl b).length + sumTo (fun n => if n ≠ 0 ∧ ab n = b then WU B ab wl n else 0) B := by
  obtain ⟨f, hf⟩ : ∃ f, B = f + 1 := ⟨B - 1, by omega⟩
  have e : WU B ab wl b = wu B ab wl (f + 1) b := by unfold WU; rw [← hf]
  rw [e]
  show (wl b).length + sumTo (fun n => if n ≠ 0 ∧ ab n = b then wu B ab wl f n else 0) B = _
  congr 1
  refine sumTo_eq B (fun n hn => ?_)
  split
  · rename_i hc
    have := hT n hc.1 hn
    exact wu_same hT f B n (by omega) (by omega) hn
  · rfl
theorem WU_root (hT : ∀ b, b ≠ 0 → b < B → ab b < b) (hB : 0 < B) : WU B ab wl 0 = tot B wl := by
  have h1 : sumTo (WU B ab wl) B = tot B wl + sumTo (fun n => if n = 0 then 0 else WU B ab wl n) B := by
    have e1 : sumTo (WU B ab wl) B = sumTo (fun b => (wl b).length + sumTo (fun n => if n ≠ 0 ∧ ab n = b then WU B ab wl n else 0) B) B := sumTo_eq B (fun b hb => WU_eq hT hb)
    rw [e1, sumTo_add, sumTo_swap (fun b n => if n ≠ 0 ∧ ab n = b then WU B ab wl n else 0)]
    unfold tot
    congr 1
    refine sumTo_eq B (fun n hn => ?_)
    by_cases h0 : n = 0
    · rw [if_pos h0]
      have : sumTo (fun i => if n ≠ 0 ∧ ab n = i then WU B ab wl n else 0) B = sumTo (fun _ => 0) B := sumTo_eq B (fun i _ => by rw [if_neg (fun q => q.1 h0)])
      rw [this, sumTo_zero]
    · rw [if_neg h0]
      have : sumTo (fun i => if n ≠ 0 ∧ ab n = i then WU B ab wl n else 0) B = sumTo (fun i => if i = ab n then WU B ab wl n else 0) B := sumTo_eq B (fun i _ => by
        by_cases hi : i = ab n
        · rw [if_pos ⟨h0, hi.symm⟩, if_pos hi]
        · rw [if_neg (fun q => hi q.2.symm), if_neg hi])
      rw [this, sumTo_one, if_pos (by have := hT n h0 hn; omega)]
  have h2 : sumTo (WU B ab wl) B = WU B ab wl 0 + sumTo (fun n => if n = 0 then 0 else WU B ab wl n) B := by
    have e2 : sumTo (WU B ab wl) B = sumTo (fun n => (if n = 0 then WU B ab wl 0 else 0) + (if n = 0 then 0 else WU B ab wl n)) B := sumTo_eq B (fun n _ => by
      by_cases h0 : n = 0
      · rw [if_pos h0, if_pos h0, h0]; omega
      · rw [if_neg h0, if_neg h0]; omega)
    rw [e2, sumTo_add, sumTo_one, if_pos hB]
  omega
theorem WU_le (hT : ∀ b, b ≠ 0 → b < B → ab b < b) (hB : 0 < B) : ∀ (k b : Nat), b ≤ k → b < B → WU B ab wl b ≤ tot B wl
  | 0, b, hk, hb => by
    rw [show b = 0 by omega, WU_root hT hB]
    exact Nat.le_refl _
  | k + 1, b, hk, hb => by
    by_cases h0 : b = 0
    · rw [h0, WU_root hT hB]
      exact Nat.le_refl _
    · have hp := hT b h0 hb
      have h1 := WU_le hT hB k (ab b) (by omega) (by omega)
      have h2 := WU_eq (wl := wl) hT (b := ab b) (by omega)
      have h3 : WU B ab wl b ≤ sumTo (fun n => if n ≠ 0 ∧ ab n = ab b then WU B ab wl n else 0) B := by
        have h5 := sumTo_pt (f := fun n => if n ≠ 0 ∧ ab n = ab b then WU B ab wl n else 0) B b hb
        rw [if_pos (show b ≠ 0 ∧ ab b = ab b from ⟨h0, rfl⟩)] at h5
        exact h5
      omega
/-- a list that was told: as it must be -/
def okL (m : Nat) (l : List Nat) : Prop := VB l ∧ AC l ∧ l.length ≤ m
def upI (B m : Nat) (ab : Nat → Nat) (wl : Nat → List Nat) (k : Nat) (t : Nat → List Nat) : Prop := ∀ n, k < n → n < B → okL m (t (2 * n)) ∧ (t (2 * n)).length ≤ WU B ab wl n
def dnI (B m : Nat) (ab : Nat → Nat) (wl : Nat → List Nat) (b : Nat) (t : Nat → List Nat) : Prop := upI B m ab wl 0 t ∧ ∀ n, 0 < n → n < b → okL m (t (2 * n + 1)) ∧ (t (2 * n + 1)).length + WU B ab wl n ≤ tot B wl
theorem VB_flat {g : Nat → List Nat} : ∀ (n : Nat), (∀ k, k < n → VB (g k)) → VB ((List.range n).flatMap g) := by
  intro n h x hx
  obtain ⟨k, hk, hx⟩ := List.mem_flatMap.mp hx
  exact h k (List.mem_range.mp hk) x hx
theorem VB_app {a b : List Nat} (ha : VB a) (hb : VB b) : VB (a ++ b) := fun x hx => (List.mem_append.mp hx).elim (ha x) (hb x)
theorem VB_nil : VB [] := fun x hx => by cases hx
theorem gth_ok {t : Nat → List Nat} {x y : Nat} (hm : 1 ≤ m) (hv : VB (inps B ab wl t x y)) (hl : (inps B ab wl t x y).length ≤ 12) : okL m (gth B m ab wl t x y) ∧ (gth B m ab wl t x y).length ≤ (inps B ab wl t x y).length := by
  obtain ⟨a1, a2, a3⟩ := adds_ok (inps B ab wl t x y) [] List.Pairwise.nil VB_nil hv
  simp only [List.length_nil, Nat.zero_add] at a3
  obtain ⟨r1, r2, r3, r4⟩ := redu_ok m hm 12 (adds (inps B ab wl t x y) []) a1 a2 (by omega)
  exact ⟨⟨r2, r1, r3⟩, Nat.le_trans r4 a3⟩
theorem up_inps (hT : ∀ b, b ≠ 0 → b < B → ab b < b) (hw : ∀ b, b < B → VB (wl b)) {t : Nat → List Nat} {b : Nat} (h0 : b ≠ 0) (hb : b < B) (hI : upI B m ab wl b t) : VB (inps B ab wl t b (ab b)) ∧ (inps B ab wl t b (ab b)).length ≤ WU B ab wl b := by
  constructor
  · refine VB_app (hw b hb) (VB_flat B (fun n hn => ?_))
    rw [hrd_up hT h0 hb hn]
    split
    · rename_i hc
      have := hT n hc.1 hn
      exact (hI n (by omega) hn).1.1
    · exact VB_nil
  · unfold inps
    rw [List.length_append, flat_len, WU_eq hT hb]
    refine Nat.add_le_add_left (sumTo_le B (fun n hn => ?_)) _
    rw [hrd_up hT h0 hb hn]
    split
    · rename_i hc
      have := hT n hc.1 hn
      exact (hI n (by omega) hn).2
    · exact Nat.le_refl _
theorem dn_inps (hT : ∀ b, b ≠ 0 → b < B → ab b < b) (hB : 0 < B) (hw : ∀ b, b < B → VB (wl b)) {t : Nat → List Nat} {b : Nat} (h0 : b ≠ 0) (hb : b < B) (hI : dnI B m ab wl b t) : VB (inps B ab wl t (ab b) b) ∧ (inps B ab wl t (ab b) b).length + WU B ab wl b ≤ tot B wl := by
  have hp := hT b h0 hb
  constructor
  · refine VB_app (hw (ab b) (by omega)) (VB_flat B (fun n hn => ?_))
    rw [hrd_dn hT h0 hb hn]
    split
    · exact (hI.1 n (by omega) hn).1.1
    · split
      · exact (hI.2 (ab b) (by omega) hp).1.1
      · exact VB_nil
  · unfold inps
    rw [List.length_append, flat_len]
    have h1 : sumTo (fun k => (hrd ab t (ab b) b k).length) B + WU B ab wl b ≤ sumTo (fun n => if n ≠ 0 ∧ ab n = ab b then WU B ab wl n else 0) B + (if ab b ≠ 0 then tot B wl - WU B ab wl (ab b) else 0) := by
      have e1 : sumTo (fun k => (hrd ab t (ab b) b k).length) B + sumTo (fun n => if n = b then WU B ab wl b else 0) B ≤ sumTo (fun n => if n ≠ 0 ∧ ab n = ab b then WU B ab wl n else 0) B + sumTo (fun n => if n = ab (ab b) then (if ab b ≠ 0 then tot B wl - WU B ab wl (ab b) else 0) else 0) B := by
        rw [← sumTo_add, ← sumTo_add]
        refine sumTo_le B (fun n hn => ?_)
        rw [hrd_dn hT h0 hb hn]
        by_cases hc : n ≠ 0 ∧ ab n = ab b ∧ n ≠ b
        · rw [if_pos hc, if_neg hc.2.2, if_pos (show n ≠ 0 ∧ ab n = ab b from ⟨hc.1, hc.2.1⟩)]
          have := (hI.1 n (by omega) hn).2
          omega
        · rw [if_neg hc]
          have hq : (if ab b ≠ 0 ∧ n = ab (ab b) then t (2 * ab b + 1) else []).length ≤ (if n = ab (ab b) then (if ab b ≠ 0 then tot B wl - WU B ab wl (ab b) else 0) else 0) := by
            split
            · rename_i hd
              rw [if_pos hd.2, if_pos hd.1]
              have := (hI.2 (ab b) (by omega) hp).2
              omega
            · exact Nat.zero_le _
          by_cases hnb : n = b
          · rw [if_pos hnb, if_pos (show n ≠ 0 ∧ ab n = ab b from ⟨by omega, by rw [hnb]⟩), hnb]
            rw [hnb] at hq
            omega
          · rw [if_neg hnb]
            omega
      rw [sumTo_one, sumTo_one, if_pos hb] at e1
      have e2 : (if ab (ab b) < B then (if ab b ≠ 0 then tot B wl - WU B ab wl (ab b) else 0) else 0) ≤ (if ab b ≠ 0 then tot B wl - WU B ab wl (ab b) else 0) := by
        split
        · exact Nat.le_refl _
        · exact Nat.zero_le _
      omega
    have h2 := WU_eq (wl := wl) hT (b := ab b) (by omega)
    have h3 := WU_le (wl := wl) hT hB B (ab b) (by omega) (by omega)
    by_cases hz : ab b = 0
    · rw [if_neg (by omega)] at h1
      have h4 := WU_root (wl := wl) hT hB
      rw [hz] at h1 h2 ⊢
      omega
    · rw [if_pos hz] at h1
      omega
theorem up_step (hT : ∀ b, b ≠ 0 → b < B → ab b < b) (hB : 0 < B) (hm : 1 ≤ m) (hw : ∀ b, b < B → VB (wl b)) (htot : tot B wl ≤ 12) {t : Nat → List Nat} {b : Nat} (hb : b + 1 < B) (hI : upI B m ab wl (b + 1) t) : upI B m ab wl b (lay B m ab wl t (b + 1) (ab (b + 1))) := by
  obtain ⟨h1, h2⟩ := up_inps hT hw (by omega) hb hI
  have h3 := WU_le (wl := wl) hT hB B (b + 1) (by omega) hb
  obtain ⟨g1, g2⟩ := gth_ok hm h1 (by omega)
  intro n hn hnB
  by_cases hnb : n = b + 1
  · subst hnb
    have e : lay B m ab wl t (b + 1) (ab (b + 1)) (2 * (b + 1)) = gth B m ab wl t (b + 1) (ab (b + 1)) := by
      rw [← lnk_up (ab := ab) (by omega : b + 1 ≠ 0), lay_at]
    rw [e]
    exact ⟨g1, Nat.le_trans g2 h2⟩
  · rw [lay_ne (by rw [lnk_up (by omega)]; omega)]
    exact hI n (by omega) hnB
theorem dn_step (hT : ∀ b, b ≠ 0 → b < B → ab b < b) (hB : 0 < B) (hm : 1 ≤ m) (hw : ∀ b, b < B → VB (wl b)) (htot : tot B wl ≤ 12) {t : Nat → List Nat} {b : Nat} (h0 : 0 < b) (hb : b < B) (hI : dnI B m ab wl b t) : dnI B m ab wl (b + 1) (lay B m ab wl t (ab b) b) := by
  obtain ⟨h1, h2⟩ := dn_inps hT hB hw (by omega) hb hI
  obtain ⟨g1, g2⟩ := gth_ok hm h1 (by omega)
  have hl := lnk_dn (B := B) hT (b := b) (by omega) hb
  refine ⟨fun n hn hnB => ?_, fun n hn hnB => ?_⟩
  · rw [lay_ne (by rw [hl]; omega)]
    exact hI.1 n hn hnB
  · by_cases hnb : n = b
    · subst hnb
      have e : lay B m ab wl t (ab n) n (2 * n + 1) = gth B m ab wl t (ab n) n := by rw [← hl, lay_at]
      rw [e]
      exact ⟨g1, by omega⟩
    · rw [lay_ne (by rw [hl]; omega)]
      exact hI.2 n hn (by omega)
theorem up_all (hT : ∀ b, b ≠ 0 → b < B → ab b < b) (hB : 0 < B) (hm : 1 ≤ m) (hw : ∀ b, b < B → VB (wl b)) (htot : tot B wl ≤ 12) : ∀ (k : Nat) (t : Nat → List Nat), k < B → upI B m ab wl k t → upI B m ab wl 0 (upP B m ab wl k t)
  | 0, _, _, h => h
  | k + 1, t, hk, h => up_all hT hB hm hw htot k _ (by omega) (up_step hT hB hm hw htot hk h)
theorem dn_all (hT : ∀ b, b ≠ 0 → b < B → ab b < b) (hB : 0 < B) (hm : 1 ≤ m) (hw : ∀ b, b < B → VB (wl b)) (htot : tot B wl ≤ 12) : ∀ (c b : Nat) (t : Nat → List Nat), 0 < b → b + c ≤ B → dnI B m ab wl b t → dnI B m ab wl (b + c) (dnP B m ab wl c b t)
  | 0, _, _, _, _, h => h
  | c + 1, b, t, hb, hc, h => by
    have := dn_all hT hB hm hw htot c (b + 1) _ (by omega) (by omega) (dn_step hT hB hm hw htot hb (by omega) h)
    rw [show b + (c + 1) = b + 1 + c by omega]
    exact this
theorem pass_ok (hT : ∀ b, b ≠ 0 → b < B → ab b < b) (hB : 0 < B) (hm : 1 ≤ m) (hw : ∀ b, b < B → VB (wl b)) (htot : tot B wl ≤ 12) (t : Nat → List Nat) : ∀ n, 0 < n → n < B → okL m (pass B m ab wl t (2 * n)) ∧ okL m (pass B m ab wl t (2 * n + 1)) := by
  intro n h1 h2
  have hu := up_all hT hB hm hw htot (B - 1) t (by omega) (fun n k1 k2 => by omega)
  have hd := dn_all hT hB hm hw htot (B - 1) 1 _ (by omega) (by omega) ⟨hu, fun n k1 k2 => by omega⟩
  exact ⟨(hd.1 n h1 h2).1, (hd.2 n h1 (by omega)).1⟩
end ROOM
end
section
/-! ===== blocks of cells: an object with what is its own, at addresses that follow each other ===== -/
def bW (σ : hp_H) (a n : Nat) (f : Nat → hp_V) : hp_H := (fun x => if a ≤ x ∧ x < a + n then some (f (x - a)) else σ.1 x, σ.2)
theorem bW_get {σ : hp_H} {a n k q : Nat} {f : Nat → hp_V} (hk : k < n) (hq : q = a + k) : (bW σ a n f).1 q = some (f k) := by
  subst hq
  show (if a ≤ a + k ∧ a + k < a + n then some (f (a + k - a)) else σ.1 (a + k)) = _
  rw [if_pos (by omega), Nat.add_sub_cancel_left]
theorem bW_out {σ : hp_H} {a n x : Nat} {f : Nat → hp_V} (h : x < a ∨ a + n ≤ x) : (bW σ a n f).1 x = σ.1 x := by
  show (if a ≤ x ∧ x < a + n then some (f (x - a)) else σ.1 x) = _
  rw [if_neg (by omega)]
theorem bW_size {σ : hp_H} {a n : Nat} {f : Nat → hp_V} : (bW σ a n f).2 = σ.2 := rfl
theorem bW_congr {σ : hp_H} {a n : Nat} {f g : Nat → hp_V} (h : ∀ k, k < n → f k = g k) : bW σ a n f = bW σ a n g := by
  unfold bW
  congr 1
  funext x
  split
  · rw [h _ (by omega)]
  · rfl
theorem bW_set {σ : hp_H} {a n k q : Nat} {f : Nat → hp_V} (hk : k < n) (hq : q = a + k) (v : hp_V) : hp_set (bW σ a n f) q v = bW σ a n (fun j => if j = k then v else f j) := by
  subst hq
  unfold hp_set bW
  congr 1
  funext x
  by_cases hx : x = a + k
  · subst hx
    show (if a + k = a + k then some v else _) = (if a ≤ a + k ∧ a + k < a + n then some (if a + k - a = k then v else f (a + k - a)) else _)
    rw [if_pos rfl, if_pos (by omega), Nat.add_sub_cancel_left, if_pos rfl]
  · simp only []
    rw [if_neg hx]
    split
    · rw [if_neg (by omega)]
    · rfl
/-- a part of a block is a block -/
theorem bW_sub {σ : hp_H} {a n k m q : Nat} {f : Nat → hp_V} (h : k + m ≤ n) (hq : q = a + k) : bW σ a n f = bW (bW σ a n f) q m (fun j => f (k + j)) := by
  subst hq
  unfold bW
  congr 1
  funext x
  simp only []
  by_cases hx : a + k ≤ x ∧ x < a + k + m
  · rw [if_pos hx, if_pos (by omega), show k + (x - (a + k)) = x - a by omega]
  · rw [if_neg hx]
theorem bW_in {σ : hp_H} {a n k m q : Nat} {f g : Nat → hp_V} (h : k + m ≤ n) (hq : q = a + k) : bW (bW σ a n f) q m g = bW σ a n (fun j => if k ≤ j ∧ j < k + m then g (j - k) else f j) := by
  subst hq
  unfold bW
  congr 1
  funext x
  simp only []
  by_cases hx : a + k ≤ x ∧ x < a + k + m
  · rw [if_pos hx, if_pos (by omega), if_pos (by omega), show x - a - k = x - (a + k) by omega]
  · rw [if_neg hx]
    by_cases h2 : a ≤ x ∧ x < a + n
    · rw [if_pos h2, if_pos h2, if_neg (by omega)]
    · rw [if_neg h2, if_neg h2]
theorem bW_idem {σ : hp_H} {a n : Nat} {f g : Nat → hp_V} : bW (bW σ a n f) a n g = bW σ a n g := by
  unfold bW
  congr 1
  funext x
  simp only []
  split <;> rfl
theorem bW_comm {σ : hp_H} {a n b m : Nat} {f g : Nat → hp_V} (h : a + n ≤ b ∨ b + m ≤ a) : bW (bW σ a n f) b m g = bW (bW σ b m g) a n f := by
  unfold bW
  congr 1
  funext x
  simp only []
  by_cases h1 : a ≤ x ∧ x < a + n
  · rw [if_pos h1, if_pos h1, if_neg (by omega)]
  · rw [if_neg h1, if_neg h1]
theorem bW_self {σ : hp_H} {a n : Nat} {f : Nat → hp_V} (h : ∀ k, k < n → σ.1 (a + k) = some (f k)) : σ = bW σ a n f := by
  unfold bW
  apply Prod.ext
  · funext x
    simp only []
    split
    · rename_i hx
      have := h (x - a) (by omega)
      rw [show a + (x - a) = x by omega] at this
      exact this
    · rfl
  · rfl
section BLK
variable {σ : hp_H} {a n k q : Nat} {f : Nat → hp_V}
theorem bk_own {α : Type} {ci : Nat} {fs : List Value} {x : Option α} (hk : k < n) (hq : q = a + k) (hf : f k = .inl (ci, fs)) : hp_own (bW σ a n f) q ci x = x := by
  unfold hp_own hp_isb
  rw [bW_get hk hq, hf]
  simp
theorem bk_isb {ci : Nat} {fs : List Value} (hk : k < n) (hq : q = a + k) (hf : f k = .inl (ci, fs)) : hp_isb (bW σ a n f) q ci = true := by
  unfold hp_isb
  rw [bW_get hk hq, hf]
  simp
theorem bk_obj {ci : Nat} {fs : List Value} (hk : k < n) (hq : q = a + k) (hf : f k = .inl (ci, fs)) : hp_obj (bW σ a n f) q ci = some fs := by
  unfold hp_obj
  rw [bW_get hk hq, hf]
  simp
theorem bk_gI {ci j : Nat} {fs : List Value} {v : Int32} (hk : k < n) (hq : q = a + k) (hf : f k = .inl (ci, fs)) (hj : fs[j]? = some (.int v)) : hp_gI (bW σ a n f) q ci j = some v := by
  unfold hp_gI
  rw [bk_obj hk hq hf, Option.bind_some, hj]
theorem bk_gR {ci j : Nat} {fs : List Value} {v : Nat} (hk : k < n) (hq : q = a + k) (hf : f k = .inl (ci, fs)) (hj : fs[j]? = some (.ref v)) : hp_gR (bW σ a n f) q ci j = some v := by
  unfold hp_gR
  rw [bk_obj hk hq hf, Option.bind_some, hj]
theorem bk_pV {ci j : Nat} {fs : List Value} {v : Value} (hk : k < n) (hq : q = a + k) (hf : f k = .inl (ci, fs)) (hj : j < fs.length) : hp_pV (bW σ a n f) q ci j v = some (bW σ a n (fun i => if i = k then .inl (ci, fs.set j v) else f i)) := by
  unfold hp_pV
  rw [bk_obj hk hq hf, Option.bind_some, if_pos hj, bW_set hk hq]
theorem bk_row {t N : Nat} {g : Nat → Int32} (hk : k < n) (hq : q = a + k) (hf : f k = .inr (.inl (t, N, g))) : hp_row (bW σ a n f) q t = some (N, g) := by
  unfold hp_row
  rw [bW_get hk hq, hf]
  simp
theorem bk_rrow {t N : Nat} {g : Nat → Option Nat} (hk : k < n) (hq : q = a + k) (hf : f k = .inr (.inr (t, N, g))) : hp_rrow (bW σ a n f) q t = some (N, g) := by
  unfold hp_rrow
  rw [bW_get hk hq, hf]
  simp
theorem bk_aI {t N i : Nat} {g : Nat → Int32} (hk : k < n) (hq : q = a + k) (hf : f k = .inr (.inl (t, N, g))) (hi : i < N) (hN : N < 2 ^ 31) : hp_aI (bW σ a n f) q t (nI i) = some (g i) := by
  unfold hp_aI
  rw [bk_row hk hq hf, Option.bind_some, nI_toInt (by omega), nI_clamp (by omega), if_pos (by constructor <;> omega)]
theorem bk_sI {t N i : Nat} {g : Nat → Int32} {x : Int32} (hk : k < n) (hq : q = a + k) (hf : f k = .inr (.inl (t, N, g))) (hi : i < N) (hN : N < 2 ^ 31) : hp_sI (bW σ a n f) q t (nI i) x = some (bW σ a n (fun j => if j = k then .inr (.inl (t, N, upd g i x)) else f j)) := by
  unfold hp_sI
  rw [bk_row hk hq hf, Option.bind_some, nI_toInt (by omega), nI_clamp (by omega), if_pos (by constructor <;> omega), bW_set hk hq]
theorem bk_aR {t N i : Nat} {g : Nat → Option Nat} (hk : k < n) (hq : q = a + k) (hf : f k = .inr (.inr (t, N, g))) (hi : i < N) (hN : N < 2 ^ 31) : hp_aR (bW σ a n f) q t (nI i) = g i := by
  unfold hp_aR
  rw [bk_rrow hk hq hf, Option.bind_some, nI_toInt (by omega), nI_clamp (by omega), if_pos (by constructor <;> omega)]
theorem bk_ln {t N : Nat} {g : Nat → Int32} (hk : k < n) (hq : q = a + k) (hf : f k = .inr (.inl (t, N, g))) : hp_ln (bW σ a n f) q t = some (nI N) := by
  unfold hp_ln
  rw [bk_row hk hq hf, Option.bind_some]
  rfl
end BLK
/-- a record: numbers by field, rows by field -/
abbrev oR : Type := (Nat → Int32) × (Nat → Nat → Int32)
def up2 (A : Nat → Nat → Int32) (j i : Nat) (x : Int32) : Nat → Nat → Int32 := fun j' => if j' = j then upd (A j) i x else A j'
theorem up2_s {A : Nat → Nat → Int32} {j i : Nat} {x : Int32} : up2 A j i x j = upd (A j) i x := if_pos rfl
theorem up2_n {A : Nat → Nat → Int32} {j i k : Nat} {x : Int32} (h : k ≠ j) : up2 A j i x k = A k := if_neg h
end
section
/-! ===== objects that hold numbers and rows of numbers alone ===== -/
/-! Book: 0 clientNumbers, 1 hads, 2 count -/
def ce_Book (a : Nat) (R : oR) : Nat → hp_V := fun k => match k with
  | 0 => .inl (0, [.ref (a + 1), .ref (a + 2), .int (R.1 2)])
  | 1 => .inr (.inl (0, 20, R.2 0))
  | _ => .inr (.inl (0, 20, R.2 1))
def bk_Book (σ : hp_H) (a : Nat) (R : oR) : hp_H := bW σ a 3 (ce_Book a R)
section
variable {σ : hp_H} {a : Nat} {R : oR}
theorem Book_own {α : Type} {x : Option α} : hp_own (bk_Book σ a R) a 0 x = x := bk_own (k := 0) (Nat.zero_lt_succ _) rfl rfl
theorem Book_isb : hp_isb (bk_Book σ a R) a 0 = true := bk_isb (k := 0) (Nat.zero_lt_succ _) rfl rfl
theorem Book_g0 : hp_gR (bk_Book σ a R) a 0 0 = some (a + 1) := bk_gR (k := 0) (Nat.zero_lt_succ _) rfl rfl rfl
theorem Book_r0 : hp_row (bk_Book σ a R) (a + 1) 0 = some (20, R.2 0) := bk_row (k := 1) (Nat.le_of_ble_eq_true rfl) rfl rfl
theorem Book_a0 {i : Nat} (h : i < 20) : hp_aI (bk_Book σ a R) (a + 1) 0 (nI i) = some (R.2 0 i) := bk_aI (k := 1) (Nat.le_of_ble_eq_true rfl) rfl rfl h (by decide)
theorem Book_s0 {i : Nat} {x : Int32} (hi : i < 20) : hp_sI (bk_Book σ a R) (a + 1) 0 (nI i) x = some (bk_Book σ a (R.1, up2 R.2 0 i x)) := by
  refine (bk_sI (k := 1) (Nat.le_of_ble_eq_true rfl) rfl rfl hi (by decide)).trans (congrArg some (bW_congr (fun k h => ?_)))
  match k, h with
  | 0, _ => rfl
  | 1, _ => rfl
  | 2, _ => rfl
theorem Book_n0 : hp_ln (bk_Book σ a R) (a + 1) 0 = some (nI 20) := bk_ln (k := 1) (Nat.le_of_ble_eq_true rfl) rfl rfl
theorem Book_g1 : hp_gR (bk_Book σ a R) a 0 1 = some (a + 2) := bk_gR (k := 0) (Nat.zero_lt_succ _) rfl rfl rfl
theorem Book_r1 : hp_row (bk_Book σ a R) (a + 2) 0 = some (20, R.2 1) := bk_row (k := 2) (Nat.le_of_ble_eq_true rfl) rfl rfl
theorem Book_a1 {i : Nat} (h : i < 20) : hp_aI (bk_Book σ a R) (a + 2) 0 (nI i) = some (R.2 1 i) := bk_aI (k := 2) (Nat.le_of_ble_eq_true rfl) rfl rfl h (by decide)
theorem Book_s1 {i : Nat} {x : Int32} (hi : i < 20) : hp_sI (bk_Book σ a R) (a + 2) 0 (nI i) x = some (bk_Book σ a (R.1, up2 R.2 1 i x)) := by
  refine (bk_sI (k := 2) (Nat.le_of_ble_eq_true rfl) rfl rfl hi (by decide)).trans (congrArg some (bW_congr (fun k h => ?_)))
  match k, h with
  | 0, _ => rfl
  | 1, _ => rfl
  | 2, _ => rfl
theorem Book_n1 : hp_ln (bk_Book σ a R) (a + 2) 0 = some (nI 20) := bk_ln (k := 2) (Nat.le_of_ble_eq_true rfl) rfl rfl
theorem Book_g2 : hp_gI (bk_Book σ a R) a 0 2 = some (R.1 2) := bk_gI (k := 0) (Nat.zero_lt_succ _) rfl rfl rfl
theorem Book_q2 {x : Int32} : hp_pV (bk_Book σ a R) a 0 2 (.int x) = some (bk_Book σ a (upd R.1 2 x, R.2)) := by
  refine (bk_pV (k := 0) (Nat.zero_lt_succ _) rfl rfl (Nat.le_of_ble_eq_true rfl)).trans (congrArg some (bW_congr (fun k h => ?_)))
  match k, h with
  | 0, _ => rfl
  | 1, _ => rfl
  | 2, _ => rfl
theorem Book_p2 {x : Int32} : hp_pI (bk_Book σ a R) a 0 2 x = some (bk_Book σ a (upd R.1 2 x, R.2)) := Book_q2
end
/-! BoxList: 0 boxes, 1 count -/
def ce_BoxList (a : Nat) (R : oR) : Nat → hp_V := fun k => match k with
  | 0 => .inl (1, [.ref (a + 1), .int (R.1 1)])
  | _ => .inr (.inl (0, 12, R.2 0))
def bk_BoxList (σ : hp_H) (a : Nat) (R : oR) : hp_H := bW σ a 2 (ce_BoxList a R)
section
variable {σ : hp_H} {a : Nat} {R : oR}
theorem BoxList_own {α : Type} {x : Option α} : hp_own (bk_BoxList σ a R) a 1 x = x := bk_own (k := 0) (Nat.zero_lt_succ _) rfl rfl
theorem BoxList_isb : hp_isb (bk_BoxList σ a R) a 1 = true := bk_isb (k := 0) (Nat.zero_lt_succ _) rfl rfl
theorem BoxList_g0 : hp_gR (bk_BoxList σ a R) a 1 0 = some (a + 1) := bk_gR (k := 0) (Nat.zero_lt_succ _) rfl rfl rfl
theorem BoxList_r0 : hp_row (bk_BoxList σ a R) (a + 1) 0 = some (12, R.2 0) := bk_row (k := 1) (Nat.le_of_ble_eq_true rfl) rfl rfl
theorem BoxList_a0 {i : Nat} (h : i < 12) : hp_aI (bk_BoxList σ a R) (a + 1) 0 (nI i) = some (R.2 0 i) := bk_aI (k := 1) (Nat.le_of_ble_eq_true rfl) rfl rfl h (by decide)
theorem BoxList_s0 {i : Nat} {x : Int32} (hi : i < 12) : hp_sI (bk_BoxList σ a R) (a + 1) 0 (nI i) x = some (bk_BoxList σ a (R.1, up2 R.2 0 i x)) := by
  refine (bk_sI (k := 1) (Nat.le_of_ble_eq_true rfl) rfl rfl hi (by decide)).trans (congrArg some (bW_congr (fun k h => ?_)))
  match k, h with
  | 0, _ => rfl
  | 1, _ => rfl
theorem BoxList_n0 : hp_ln (bk_BoxList σ a R) (a + 1) 0 = some (nI 12) := bk_ln (k := 1) (Nat.le_of_ble_eq_true rfl) rfl rfl
theorem BoxList_g1 : hp_gI (bk_BoxList σ a R) a 1 1 = some (R.1 1) := bk_gI (k := 0) (Nat.zero_lt_succ _) rfl rfl rfl
theorem BoxList_q1 {x : Int32} : hp_pV (bk_BoxList σ a R) a 1 1 (.int x) = some (bk_BoxList σ a (upd R.1 1 x, R.2)) := by
  refine (bk_pV (k := 0) (Nat.zero_lt_succ _) rfl rfl (Nat.le_of_ble_eq_true rfl)).trans (congrArg some (bW_congr (fun k h => ?_)))
  match k, h with
  | 0, _ => rfl
  | 1, _ => rfl
theorem BoxList_p1 {x : Int32} : hp_pI (bk_BoxList σ a R) a 1 1 x = some (bk_BoxList σ a (upd R.1 1 x, R.2)) := BoxList_q1
end
/-! Client: 0 home, 1 present, 2 had, 3 lost, 4 keptCount, 5 kept, 6 latestFirst -/
def ce_Client (a : Nat) (R : oR) : Nat → hp_V := fun k => match k with
  | 0 => .inl (2, [.int (R.1 0), .int (R.1 1), .int (R.1 2), .int (R.1 3), .int (R.1 4), .ref (a + 1), .ref (a + 2)])
  | 1 => .inr (.inl (0, 8, R.2 5))
  | _ => .inr (.inl (0, 12, R.2 6))
def bk_Client (σ : hp_H) (a : Nat) (R : oR) : hp_H := bW σ a 3 (ce_Client a R)
section
variable {σ : hp_H} {a : Nat} {R : oR}
theorem Client_own {α : Type} {x : Option α} : hp_own (bk_Client σ a R) a 2 x = x := bk_own (k := 0) (Nat.zero_lt_succ _) rfl rfl
theorem Client_isb : hp_isb (bk_Client σ a R) a 2 = true := bk_isb (k := 0) (Nat.zero_lt_succ _) rfl rfl
theorem Client_g0 : hp_gI (bk_Client σ a R) a 2 0 = some (R.1 0) := bk_gI (k := 0) (Nat.zero_lt_succ _) rfl rfl rfl
theorem Client_q0 {x : Int32} : hp_pV (bk_Client σ a R) a 2 0 (.int x) = some (bk_Client σ a (upd R.1 0 x, R.2)) := by
  refine (bk_pV (k := 0) (Nat.zero_lt_succ _) rfl rfl (Nat.le_of_ble_eq_true rfl)).trans (congrArg some (bW_congr (fun k h => ?_)))
  match k, h with
  | 0, _ => rfl
  | 1, _ => rfl
  | 2, _ => rfl
theorem Client_p0 {x : Int32} : hp_pI (bk_Client σ a R) a 2 0 x = some (bk_Client σ a (upd R.1 0 x, R.2)) := Client_q0
theorem Client_g1 : hp_gI (bk_Client σ a R) a 2 1 = some (R.1 1) := bk_gI (k := 0) (Nat.zero_lt_succ _) rfl rfl rfl
theorem Client_q1 {x : Int32} : hp_pV (bk_Client σ a R) a 2 1 (.int x) = some (bk_Client σ a (upd R.1 1 x, R.2)) := by
  refine (bk_pV (k := 0) (Nat.zero_lt_succ _) rfl rfl (Nat.le_of_ble_eq_true rfl)).trans (congrArg some (bW_congr (fun k h => ?_)))
  match k, h with
  | 0, _ => rfl
  | 1, _ => rfl
  | 2, _ => rfl
theorem Client_p1 {x : Int32} (hz : x = 0 ∨ x = 1) : hp_pZ (bk_Client σ a R) a 2 1 x = some (bk_Client σ a (upd R.1 1 x, R.2)) := by
  unfold hp_pZ
  rw [if_pos hz]
  exact Client_q1
theorem Client_g2 : hp_gI (bk_Client σ a R) a 2 2 = some (R.1 2) := bk_gI (k := 0) (Nat.zero_lt_succ _) rfl rfl rfl
theorem Client_q2 {x : Int32} : hp_pV (bk_Client σ a R) a 2 2 (.int x) = some (bk_Client σ a (upd R.1 2 x, R.2)) := by
  refine (bk_pV (k := 0) (Nat.zero_lt_succ _) rfl rfl (Nat.le_of_ble_eq_true rfl)).trans (congrArg some (bW_congr (fun k h => ?_)))
  match k, h with
  | 0, _ => rfl
  | 1, _ => rfl
  | 2, _ => rfl
theorem Client_p2 {x : Int32} : hp_pI (bk_Client σ a R) a 2 2 x = some (bk_Client σ a (upd R.1 2 x, R.2)) := Client_q2
theorem Client_g3 : hp_gI (bk_Client σ a R) a 2 3 = some (R.1 3) := bk_gI (k := 0) (Nat.zero_lt_succ _) rfl rfl rfl
theorem Client_q3 {x : Int32} : hp_pV (bk_Client σ a R) a 2 3 (.int x) = some (bk_Client σ a (upd R.1 3 x, R.2)) := by
  refine (bk_pV (k := 0) (Nat.zero_lt_succ _) rfl rfl (Nat.le_of_ble_eq_true rfl)).trans (congrArg some (bW_congr (fun k h => ?_)))
  match k, h with
  | 0, _ => rfl
  | 1, _ => rfl
  | 2, _ => rfl
theorem Client_p3 {x : Int32} : hp_pI (bk_Client σ a R) a 2 3 x = some (bk_Client σ a (upd R.1 3 x, R.2)) := Client_q3
theorem Client_g4 : hp_gI (bk_Client σ a R) a 2 4 = some (R.1 4) := bk_gI (k := 0) (Nat.zero_lt_succ _) rfl rfl rfl
theorem Client_q4 {x : Int32} : hp_pV (bk_Client σ a R) a 2 4 (.int x) = some (bk_Client σ a (upd R.1 4 x, R.2)) := by
  refine (bk_pV (k := 0) (Nat.zero_lt_succ _) rfl rfl (Nat.le_of_ble_eq_true rfl)).trans (congrArg some (bW_congr (fun k h => ?_)))
  match k, h with
  | 0, _ => rfl
  | 1, _ => rfl
  | 2, _ => rfl
theorem Client_p4 {x : Int32} : hp_pI (bk_Client σ a R) a 2 4 x = some (bk_Client σ a (upd R.1 4 x, R.2)) := Client_q4
theorem Client_g5 : hp_gR (bk_Client σ a R) a 2 5 = some (a + 1) := bk_gR (k := 0) (Nat.zero_lt_succ _) rfl rfl rfl
theorem Client_r5 : hp_row (bk_Client σ a R) (a + 1) 0 = some (8, R.2 5) := bk_row (k := 1) (Nat.le_of_ble_eq_true rfl) rfl rfl
theorem Client_a5 {i : Nat} (h : i < 8) : hp_aI (bk_Client σ a R) (a + 1) 0 (nI i) = some (R.2 5 i) := bk_aI (k := 1) (Nat.le_of_ble_eq_true rfl) rfl rfl h (by decide)
theorem Client_s5 {i : Nat} {x : Int32} (hi : i < 8) : hp_sI (bk_Client σ a R) (a + 1) 0 (nI i) x = some (bk_Client σ a (R.1, up2 R.2 5 i x)) := by
  refine (bk_sI (k := 1) (Nat.le_of_ble_eq_true rfl) rfl rfl hi (by decide)).trans (congrArg some (bW_congr (fun k h => ?_)))
  match k, h with
  | 0, _ => rfl
  | 1, _ => rfl
  | 2, _ => rfl
theorem Client_n5 : hp_ln (bk_Client σ a R) (a + 1) 0 = some (nI 8) := bk_ln (k := 1) (Nat.le_of_ble_eq_true rfl) rfl rfl
theorem Client_g6 : hp_gR (bk_Client σ a R) a 2 6 = some (a + 2) := bk_gR (k := 0) (Nat.zero_lt_succ _) rfl rfl rfl
theorem Client_r6 : hp_row (bk_Client σ a R) (a + 2) 0 = some (12, R.2 6) := bk_row (k := 2) (Nat.le_of_ble_eq_true rfl) rfl rfl
theorem Client_a6 {i : Nat} (h : i < 12) : hp_aI (bk_Client σ a R) (a + 2) 0 (nI i) = some (R.2 6 i) := bk_aI (k := 2) (Nat.le_of_ble_eq_true rfl) rfl rfl h (by decide)
theorem Client_s6 {i : Nat} {x : Int32} (hi : i < 12) : hp_sI (bk_Client σ a R) (a + 2) 0 (nI i) x = some (bk_Client σ a (R.1, up2 R.2 6 i x)) := by
  refine (bk_sI (k := 2) (Nat.le_of_ble_eq_true rfl) rfl rfl hi (by decide)).trans (congrArg some (bW_congr (fun k h => ?_)))
  match k, h with
  | 0, _ => rfl
  | 1, _ => rfl
  | 2, _ => rfl
theorem Client_n6 : hp_ln (bk_Client σ a R) (a + 2) 0 = some (nI 12) := bk_ln (k := 2) (Nat.le_of_ble_eq_true rfl) rfl rfl
end
/-! Draws: 0 value -/
def ce_Draws (a : Nat) (R : oR) : Nat → hp_V := fun k => match k with
  | _ => .inl (3, [.int (R.1 0)])
def bk_Draws (σ : hp_H) (a : Nat) (R : oR) : hp_H := bW σ a 1 (ce_Draws a R)
section
variable {σ : hp_H} {a : Nat} {R : oR}
theorem Draws_own {α : Type} {x : Option α} : hp_own (bk_Draws σ a R) a 3 x = x := bk_own (k := 0) (Nat.zero_lt_succ _) rfl rfl
theorem Draws_isb : hp_isb (bk_Draws σ a R) a 3 = true := bk_isb (k := 0) (Nat.zero_lt_succ _) rfl rfl
theorem Draws_g0 : hp_gI (bk_Draws σ a R) a 3 0 = some (R.1 0) := bk_gI (k := 0) (Nat.zero_lt_succ _) rfl rfl rfl
theorem Draws_q0 {x : Int32} : hp_pV (bk_Draws σ a R) a 3 0 (.int x) = some (bk_Draws σ a (upd R.1 0 x, R.2)) := by
  refine (bk_pV (k := 0) (Nat.zero_lt_succ _) rfl rfl (Nat.le_of_ble_eq_true rfl)).trans (congrArg some (bW_congr (fun k h => ?_)))
  match k, h with
  | 0, _ => rfl
theorem Draws_p0 {x : Int32} : hp_pI (bk_Draws σ a R) a 3 0 x = some (bk_Draws σ a (upd R.1 0 x, R.2)) := Draws_q0
end
/-! Journey: 0 reached, 1 places, 2 getters, 3 vain, 4 links -/
def ce_Journey (a : Nat) (R : oR) : Nat → hp_V := fun k => match k with
  | 0 => .inl (5, [.ref (a + 1), .int (R.1 1), .int (R.1 2), .int (R.1 3), .int (R.1 4)])
  | _ => .inr (.inl (0, 7, R.2 0))
def bk_Journey (σ : hp_H) (a : Nat) (R : oR) : hp_H := bW σ a 2 (ce_Journey a R)
section
variable {σ : hp_H} {a : Nat} {R : oR}
theorem Journey_own {α : Type} {x : Option α} : hp_own (bk_Journey σ a R) a 5 x = x := bk_own (k := 0) (Nat.zero_lt_succ _) rfl rfl
theorem Journey_isb : hp_isb (bk_Journey σ a R) a 5 = true := bk_isb (k := 0) (Nat.zero_lt_succ _) rfl rfl
theorem Journey_g0 : hp_gR (bk_Journey σ a R) a 5 0 = some (a + 1) := bk_gR (k := 0) (Nat.zero_lt_succ _) rfl rfl rfl
theorem Journey_r0 : hp_row (bk_Journey σ a R) (a + 1) 0 = some (7, R.2 0) := bk_row (k := 1) (Nat.le_of_ble_eq_true rfl) rfl rfl
theorem Journey_a0 {i : Nat} (h : i < 7) : hp_aI (bk_Journey σ a R) (a + 1) 0 (nI i) = some (R.2 0 i) := bk_aI (k := 1) (Nat.le_of_ble_eq_true rfl) rfl rfl h (by decide)
theorem Journey_s0 {i : Nat} {x : Int32} (hi : i < 7) : hp_sI (bk_Journey σ a R) (a + 1) 0 (nI i) x = some (bk_Journey σ a (R.1, up2 R.2 0 i x)) := by
  refine (bk_sI (k := 1) (Nat.le_of_ble_eq_true rfl) rfl rfl hi (by decide)).trans (congrArg some (bW_congr (fun k h => ?_)))
  match k, h with
  | 0, _ => rfl
  | 1, _ => rfl
theorem Journey_n0 : hp_ln (bk_Journey σ a R) (a + 1) 0 = some (nI 7) := bk_ln (k := 1) (Nat.le_of_ble_eq_true rfl) rfl rfl
theorem Journey_g1 : hp_gI (bk_Journey σ a R) a 5 1 = some (R.1 1) := bk_gI (k := 0) (Nat.zero_lt_succ _) rfl rfl rfl
theorem Journey_q1 {x : Int32} : hp_pV (bk_Journey σ a R) a 5 1 (.int x) = some (bk_Journey σ a (upd R.1 1 x, R.2)) := by
  refine (bk_pV (k := 0) (Nat.zero_lt_succ _) rfl rfl (Nat.le_of_ble_eq_true rfl)).trans (congrArg some (bW_congr (fun k h => ?_)))
  match k, h with
  | 0, _ => rfl
  | 1, _ => rfl
theorem Journey_p1 {x : Int32} : hp_pI (bk_Journey σ a R) a 5 1 x = some (bk_Journey σ a (upd R.1 1 x, R.2)) := Journey_q1
theorem Journey_g2 : hp_gI (bk_Journey σ a R) a 5 2 = some (R.1 2) := bk_gI (k := 0) (Nat.zero_lt_succ _) rfl rfl rfl
theorem Journey_q2 {x : Int32} : hp_pV (bk_Journey σ a R) a 5 2 (.int x) = some (bk_Journey σ a (upd R.1 2 x, R.2)) := by
  refine (bk_pV (k := 0) (Nat.zero_lt_succ _) rfl rfl (Nat.le_of_ble_eq_true rfl)).trans (congrArg some (bW_congr (fun k h => ?_)))
  match k, h with
  | 0, _ => rfl
  | 1, _ => rfl
theorem Journey_p2 {x : Int32} : hp_pI (bk_Journey σ a R) a 5 2 x = some (bk_Journey σ a (upd R.1 2 x, R.2)) := Journey_q2
theorem Journey_g3 : hp_gI (bk_Journey σ a R) a 5 3 = some (R.1 3) := bk_gI (k := 0) (Nat.zero_lt_succ _) rfl rfl rfl
theorem Journey_q3 {x : Int32} : hp_pV (bk_Journey σ a R) a 5 3 (.int x) = some (bk_Journey σ a (upd R.1 3 x, R.2)) := by
  refine (bk_pV (k := 0) (Nat.zero_lt_succ _) rfl rfl (Nat.le_of_ble_eq_true rfl)).trans (congrArg some (bW_congr (fun k h => ?_)))
  match k, h with
  | 0, _ => rfl
  | 1, _ => rfl
theorem Journey_p3 {x : Int32} : hp_pI (bk_Journey σ a R) a 5 3 x = some (bk_Journey σ a (upd R.1 3 x, R.2)) := Journey_q3
theorem Journey_g4 : hp_gI (bk_Journey σ a R) a 5 4 = some (R.1 4) := bk_gI (k := 0) (Nat.zero_lt_succ _) rfl rfl rfl
theorem Journey_q4 {x : Int32} : hp_pV (bk_Journey σ a R) a 5 4 (.int x) = some (bk_Journey σ a (upd R.1 4 x, R.2)) := by
  refine (bk_pV (k := 0) (Nat.zero_lt_succ _) rfl rfl (Nat.le_of_ble_eq_true rfl)).trans (congrArg some (bW_congr (fun k h => ?_)))
  match k, h with
  | 0, _ => rfl
  | 1, _ => rfl
theorem Journey_p4 {x : Int32} : hp_pI (bk_Journey σ a R) a 5 4 x = some (bk_Journey σ a (upd R.1 4 x, R.2)) := Journey_q4
end
/-! Mo: 0 s, 1 seed, 2 past, 3 known, 4 images, 5 isKept, 6 bookClient, 7 bookHad, 8 written, 9 many, 10 told, 11 isLaid, 12 box, 13 boxes, 14 joined, 15 places, 16 gets, 17 vain, 18 links -/
def ce_Mo (a : Nat) (R : oR) : Nat → hp_V := fun k => match k with
  | 0 => .inl (10, [.ref (a + 1), .int (R.1 1), .ref (a + 2), .int (R.1 3), .ref (a + 3), .ref (a + 4), .ref (a + 5), .ref (a + 6), .int (R.1 8), .ref (a + 7), .ref (a + 8), .int (R.1 11), .ref (a + 9), .int (R.1 13), .ref (a + 10), .int (R.1 15), .int (R.1 16), .int (R.1 17), .int (R.1 18)])
  | 1 => .inr (.inl (0, 256, R.2 0))
  | 2 => .inr (.inl (0, 4096, R.2 2))
  | 3 => .inr (.inl (0, 514, R.2 4))
  | 4 => .inr (.inl (1, 2, R.2 5))
  | 5 => .inr (.inl (0, 20, R.2 6))
  | 6 => .inr (.inl (0, 20, R.2 7))
  | 7 => .inr (.inl (0, 14, R.2 9))
  | 8 => .inr (.inl (0, 756, R.2 10))
  | 9 => .inr (.inl (0, 480, R.2 12))
  | _ => .inr (.inl (0, 6, R.2 14))
def bk_Mo (σ : hp_H) (a : Nat) (R : oR) : hp_H := bW σ a 11 (ce_Mo a R)
section
variable {σ : hp_H} {a : Nat} {R : oR}
theorem Mo_own {α : Type} {x : Option α} : hp_own (bk_Mo σ a R) a 10 x = x := bk_own (k := 0) (Nat.zero_lt_succ _) rfl rfl
theorem Mo_isb : hp_isb (bk_Mo σ a R) a 10 = true := bk_isb (k := 0) (Nat.zero_lt_succ _) rfl rfl
theorem Mo_g0 : hp_gR (bk_Mo σ a R) a 10 0 = some (a + 1) := bk_gR (k := 0) (Nat.zero_lt_succ _) rfl rfl rfl
theorem Mo_r0 : hp_row (bk_Mo σ a R) (a + 1) 0 = some (256, R.2 0) := bk_row (k := 1) (Nat.le_of_ble_eq_true rfl) rfl rfl
theorem Mo_a0 {i : Nat} (h : i < 256) : hp_aI (bk_Mo σ a R) (a + 1) 0 (nI i) = some (R.2 0 i) := bk_aI (k := 1) (Nat.le_of_ble_eq_true rfl) rfl rfl h (by decide)
theorem Mo_s0 {i : Nat} {x : Int32} (hi : i < 256) : hp_sI (bk_Mo σ a R) (a + 1) 0 (nI i) x = some (bk_Mo σ a (R.1, up2 R.2 0 i x)) := by
  refine (bk_sI (k := 1) (Nat.le_of_ble_eq_true rfl) rfl rfl hi (by decide)).trans (congrArg some (bW_congr (fun k h => ?_)))
  match k, h with
  | 0, _ => rfl
  | 1, _ => rfl
  | 2, _ => rfl
  | 3, _ => rfl
  | 4, _ => rfl
  | 5, _ => rfl
  | 6, _ => rfl
  | 7, _ => rfl
  | 8, _ => rfl
  | 9, _ => rfl
  | 10, _ => rfl
  | k + 11, h => omega
theorem Mo_n0 : hp_ln (bk_Mo σ a R) (a + 1) 0 = some (nI 256) := bk_ln (k := 1) (Nat.le_of_ble_eq_true rfl) rfl rfl
theorem Mo_g1 : hp_gI (bk_Mo σ a R) a 10 1 = some (R.1 1) := bk_gI (k := 0) (Nat.zero_lt_succ _) rfl rfl rfl
theorem Mo_q1 {x : Int32} : hp_pV (bk_Mo σ a R) a 10 1 (.int x) = some (bk_Mo σ a (upd R.1 1 x, R.2)) := by
  refine (bk_pV (k := 0) (Nat.zero_lt_succ _) rfl rfl (Nat.le_of_ble_eq_true rfl)).trans (congrArg some (bW_congr (fun k h => ?_)))
  match k, h with
  | 0, _ => rfl
  | 1, _ => rfl
  | 2, _ => rfl
  | 3, _ => rfl
  | 4, _ => rfl
  | 5, _ => rfl
  | 6, _ => rfl
  | 7, _ => rfl
  | 8, _ => rfl
  | 9, _ => rfl
  | 10, _ => rfl
  | k + 11, h => omega
theorem Mo_p1 {x : Int32} : hp_pI (bk_Mo σ a R) a 10 1 x = some (bk_Mo σ a (upd R.1 1 x, R.2)) := Mo_q1
theorem Mo_g2 : hp_gR (bk_Mo σ a R) a 10 2 = some (a + 2) := bk_gR (k := 0) (Nat.zero_lt_succ _) rfl rfl rfl
theorem Mo_r2 : hp_row (bk_Mo σ a R) (a + 2) 0 = some (4096, R.2 2) := bk_row (k := 2) (Nat.le_of_ble_eq_true rfl) rfl rfl
theorem Mo_a2 {i : Nat} (h : i < 4096) : hp_aI (bk_Mo σ a R) (a + 2) 0 (nI i) = some (R.2 2 i) := bk_aI (k := 2) (Nat.le_of_ble_eq_true rfl) rfl rfl h (by decide)
theorem Mo_s2 {i : Nat} {x : Int32} (hi : i < 4096) : hp_sI (bk_Mo σ a R) (a + 2) 0 (nI i) x = some (bk_Mo σ a (R.1, up2 R.2 2 i x)) := by
  refine (bk_sI (k := 2) (Nat.le_of_ble_eq_true rfl) rfl rfl hi (by decide)).trans (congrArg some (bW_congr (fun k h => ?_)))
  match k, h with
  | 0, _ => rfl
  | 1, _ => rfl
  | 2, _ => rfl
  | 3, _ => rfl
  | 4, _ => rfl
  | 5, _ => rfl
  | 6, _ => rfl
  | 7, _ => rfl
  | 8, _ => rfl
  | 9, _ => rfl
  | 10, _ => rfl
  | k + 11, h => omega
theorem Mo_n2 : hp_ln (bk_Mo σ a R) (a + 2) 0 = some (nI 4096) := bk_ln (k := 2) (Nat.le_of_ble_eq_true rfl) rfl rfl
theorem Mo_g3 : hp_gI (bk_Mo σ a R) a 10 3 = some (R.1 3) := bk_gI (k := 0) (Nat.zero_lt_succ _) rfl rfl rfl
theorem Mo_q3 {x : Int32} : hp_pV (bk_Mo σ a R) a 10 3 (.int x) = some (bk_Mo σ a (upd R.1 3 x, R.2)) := by
  refine (bk_pV (k := 0) (Nat.zero_lt_succ _) rfl rfl (Nat.le_of_ble_eq_true rfl)).trans (congrArg some (bW_congr (fun k h => ?_)))
  match k, h with
  | 0, _ => rfl
  | 1, _ => rfl
  | 2, _ => rfl
  | 3, _ => rfl
  | 4, _ => rfl
  | 5, _ => rfl
  | 6, _ => rfl
  | 7, _ => rfl
  | 8, _ => rfl
  | 9, _ => rfl
  | 10, _ => rfl
  | k + 11, h => omega
theorem Mo_p3 {x : Int32} : hp_pI (bk_Mo σ a R) a 10 3 x = some (bk_Mo σ a (upd R.1 3 x, R.2)) := Mo_q3
theorem Mo_g4 : hp_gR (bk_Mo σ a R) a 10 4 = some (a + 3) := bk_gR (k := 0) (Nat.zero_lt_succ _) rfl rfl rfl
theorem Mo_r4 : hp_row (bk_Mo σ a R) (a + 3) 0 = some (514, R.2 4) := bk_row (k := 3) (Nat.le_of_ble_eq_true rfl) rfl rfl
theorem Mo_a4 {i : Nat} (h : i < 514) : hp_aI (bk_Mo σ a R) (a + 3) 0 (nI i) = some (R.2 4 i) := bk_aI (k := 3) (Nat.le_of_ble_eq_true rfl) rfl rfl h (by decide)
theorem Mo_s4 {i : Nat} {x : Int32} (hi : i < 514) : hp_sI (bk_Mo σ a R) (a + 3) 0 (nI i) x = some (bk_Mo σ a (R.1, up2 R.2 4 i x)) := by
  refine (bk_sI (k := 3) (Nat.le_of_ble_eq_true rfl) rfl rfl hi (by decide)).trans (congrArg some (bW_congr (fun k h => ?_)))
  match k, h with
  | 0, _ => rfl
  | 1, _ => rfl
  | 2, _ => rfl
  | 3, _ => rfl
  | 4, _ => rfl
  | 5, _ => rfl
  | 6, _ => rfl
  | 7, _ => rfl
  | 8, _ => rfl
  | 9, _ => rfl
  | 10, _ => rfl
  | k + 11, h => omega
theorem Mo_n4 : hp_ln (bk_Mo σ a R) (a + 3) 0 = some (nI 514) := bk_ln (k := 3) (Nat.le_of_ble_eq_true rfl) rfl rfl
theorem Mo_g5 : hp_gR (bk_Mo σ a R) a 10 5 = some (a + 4) := bk_gR (k := 0) (Nat.zero_lt_succ _) rfl rfl rfl
theorem Mo_r5 : hp_row (bk_Mo σ a R) (a + 4) 1 = some (2, R.2 5) := bk_row (k := 4) (Nat.le_of_ble_eq_true rfl) rfl rfl
theorem Mo_a5 {i : Nat} (h : i < 2) : hp_aI (bk_Mo σ a R) (a + 4) 1 (nI i) = some (R.2 5 i) := bk_aI (k := 4) (Nat.le_of_ble_eq_true rfl) rfl rfl h (by decide)
theorem Mo_s5 {i : Nat} {x : Int32} (hi : i < 2) : hp_sI (bk_Mo σ a R) (a + 4) 1 (nI i) x = some (bk_Mo σ a (R.1, up2 R.2 5 i x)) := by
  refine (bk_sI (k := 4) (Nat.le_of_ble_eq_true rfl) rfl rfl hi (by decide)).trans (congrArg some (bW_congr (fun k h => ?_)))
  match k, h with
  | 0, _ => rfl
  | 1, _ => rfl
  | 2, _ => rfl
  | 3, _ => rfl
  | 4, _ => rfl
  | 5, _ => rfl
  | 6, _ => rfl
  | 7, _ => rfl
  | 8, _ => rfl
  | 9, _ => rfl
  | 10, _ => rfl
  | k + 11, h => omega
theorem Mo_n5 : hp_ln (bk_Mo σ a R) (a + 4) 1 = some (nI 2) := bk_ln (k := 4) (Nat.le_of_ble_eq_true rfl) rfl rfl
theorem Mo_g6 : hp_gR (bk_Mo σ a R) a 10 6 = some (a + 5) := bk_gR (k := 0) (Nat.zero_lt_succ _) rfl rfl rfl
theorem Mo_r6 : hp_row (bk_Mo σ a R) (a + 5) 0 = some (20, R.2 6) := bk_row (k := 5) (Nat.le_of_ble_eq_true rfl) rfl rfl
theorem Mo_a6 {i : Nat} (h : i < 20) : hp_aI (bk_Mo σ a R) (a + 5) 0 (nI i) = some (R.2 6 i) := bk_aI (k := 5) (Nat.le_of_ble_eq_true rfl) rfl rfl h (by decide)
theorem Mo_s6 {i : Nat} {x : Int32} (hi : i < 20) : hp_sI (bk_Mo σ a R) (a + 5) 0 (nI i) x = some (bk_Mo σ a (R.1, up2 R.2 6 i x)) := by
  refine (bk_sI (k := 5) (Nat.le_of_ble_eq_true rfl) rfl rfl hi (by decide)).trans (congrArg some (bW_congr (fun k h => ?_)))
  match k, h with
  | 0, _ => rfl
  | 1, _ => rfl
  | 2, _ => rfl
  | 3, _ => rfl
  | 4, _ => rfl
  | 5, _ => rfl
  | 6, _ => rfl
  | 7, _ => rfl
  | 8, _ => rfl
  | 9, _ => rfl
  | 10, _ => rfl
  | k + 11, h => omega
theorem Mo_n6 : hp_ln (bk_Mo σ a R) (a + 5) 0 = some (nI 20) := bk_ln (k := 5) (Nat.le_of_ble_eq_true rfl) rfl rfl
theorem Mo_g7 : hp_gR (bk_Mo σ a R) a 10 7 = some (a + 6) := bk_gR (k := 0) (Nat.zero_lt_succ _) rfl rfl rfl
theorem Mo_r7 : hp_row (bk_Mo σ a R) (a + 6) 0 = some (20, R.2 7) := bk_row (k := 6) (Nat.le_of_ble_eq_true rfl) rfl rfl
theorem Mo_a7 {i : Nat} (h : i < 20) : hp_aI (bk_Mo σ a R) (a + 6) 0 (nI i) = some (R.2 7 i) := bk_aI (k := 6) (Nat.le_of_ble_eq_true rfl) rfl rfl h (by decide)
theorem Mo_s7 {i : Nat} {x : Int32} (hi : i < 20) : hp_sI (bk_Mo σ a R) (a + 6) 0 (nI i) x = some (bk_Mo σ a (R.1, up2 R.2 7 i x)) := by
  refine (bk_sI (k := 6) (Nat.le_of_ble_eq_true rfl) rfl rfl hi (by decide)).trans (congrArg some (bW_congr (fun k h => ?_)))
  match k, h with
  | 0, _ => rfl
  | 1, _ => rfl
  | 2, _ => rfl
  | 3, _ => rfl
  | 4, _ => rfl
  | 5, _ => rfl
  | 6, _ => rfl
  | 7, _ => rfl
  | 8, _ => rfl
  | 9, _ => rfl
  | 10, _ => rfl
  | k + 11, h => omega
theorem Mo_n7 : hp_ln (bk_Mo σ a R) (a + 6) 0 = some (nI 20) := bk_ln (k := 6) (Nat.le_of_ble_eq_true rfl) rfl rfl
theorem Mo_g8 : hp_gI (bk_Mo σ a R) a 10 8 = some (R.1 8) := bk_gI (k := 0) (Nat.zero_lt_succ _) rfl rfl rfl
theorem Mo_q8 {x : Int32} : hp_pV (bk_Mo σ a R) a 10 8 (.int x) = some (bk_Mo σ a (upd R.1 8 x, R.2)) := by
  refine (bk_pV (k := 0) (Nat.zero_lt_succ _) rfl rfl (Nat.le_of_ble_eq_true rfl)).trans (congrArg some (bW_congr (fun k h => ?_)))
  match k, h with
  | 0, _ => rfl
  | 1, _ => rfl
  | 2, _ => rfl
  | 3, _ => rfl
  | 4, _ => rfl
  | 5, _ => rfl
  | 6, _ => rfl
  | 7, _ => rfl
  | 8, _ => rfl
  | 9, _ => rfl
  | 10, _ => rfl
  | k + 11, h => omega
theorem Mo_p8 {x : Int32} : hp_pI (bk_Mo σ a R) a 10 8 x = some (bk_Mo σ a (upd R.1 8 x, R.2)) := Mo_q8
theorem Mo_g9 : hp_gR (bk_Mo σ a R) a 10 9 = some (a + 7) := bk_gR (k := 0) (Nat.zero_lt_succ _) rfl rfl rfl
theorem Mo_r9 : hp_row (bk_Mo σ a R) (a + 7) 0 = some (14, R.2 9) := bk_row (k := 7) (Nat.le_of_ble_eq_true rfl) rfl rfl
theorem Mo_a9 {i : Nat} (h : i < 14) : hp_aI (bk_Mo σ a R) (a + 7) 0 (nI i) = some (R.2 9 i) := bk_aI (k := 7) (Nat.le_of_ble_eq_true rfl) rfl rfl h (by decide)
theorem Mo_s9 {i : Nat} {x : Int32} (hi : i < 14) : hp_sI (bk_Mo σ a R) (a + 7) 0 (nI i) x = some (bk_Mo σ a (R.1, up2 R.2 9 i x)) := by
  refine (bk_sI (k := 7) (Nat.le_of_ble_eq_true rfl) rfl rfl hi (by decide)).trans (congrArg some (bW_congr (fun k h => ?_)))
  match k, h with
  | 0, _ => rfl
  | 1, _ => rfl
  | 2, _ => rfl
  | 3, _ => rfl
  | 4, _ => rfl
  | 5, _ => rfl
  | 6, _ => rfl
  | 7, _ => rfl
  | 8, _ => rfl
  | 9, _ => rfl
  | 10, _ => rfl
  | k + 11, h => omega
theorem Mo_n9 : hp_ln (bk_Mo σ a R) (a + 7) 0 = some (nI 14) := bk_ln (k := 7) (Nat.le_of_ble_eq_true rfl) rfl rfl
theorem Mo_g10 : hp_gR (bk_Mo σ a R) a 10 10 = some (a + 8) := bk_gR (k := 0) (Nat.zero_lt_succ _) rfl rfl rfl
theorem Mo_r10 : hp_row (bk_Mo σ a R) (a + 8) 0 = some (756, R.2 10) := bk_row (k := 8) (Nat.le_of_ble_eq_true rfl) rfl rfl
theorem Mo_a10 {i : Nat} (h : i < 756) : hp_aI (bk_Mo σ a R) (a + 8) 0 (nI i) = some (R.2 10 i) := bk_aI (k := 8) (Nat.le_of_ble_eq_true rfl) rfl rfl h (by decide)
theorem Mo_s10 {i : Nat} {x : Int32} (hi : i < 756) : hp_sI (bk_Mo σ a R) (a + 8) 0 (nI i) x = some (bk_Mo σ a (R.1, up2 R.2 10 i x)) := by
  refine (bk_sI (k := 8) (Nat.le_of_ble_eq_true rfl) rfl rfl hi (by decide)).trans (congrArg some (bW_congr (fun k h => ?_)))
  match k, h with
  | 0, _ => rfl
  | 1, _ => rfl
  | 2, _ => rfl
  | 3, _ => rfl
  | 4, _ => rfl
  | 5, _ => rfl
  | 6, _ => rfl
  | 7, _ => rfl
  | 8, _ => rfl
  | 9, _ => rfl
  | 10, _ => rfl
  | k + 11, h => omega
theorem Mo_n10 : hp_ln (bk_Mo σ a R) (a + 8) 0 = some (nI 756) := bk_ln (k := 8) (Nat.le_of_ble_eq_true rfl) rfl rfl
theorem Mo_g11 : hp_gI (bk_Mo σ a R) a 10 11 = some (R.1 11) := bk_gI (k := 0) (Nat.zero_lt_succ _) rfl rfl rfl
theorem Mo_q11 {x : Int32} : hp_pV (bk_Mo σ a R) a 10 11 (.int x) = some (bk_Mo σ a (upd R.1 11 x, R.2)) := by
  refine (bk_pV (k := 0) (Nat.zero_lt_succ _) rfl rfl (Nat.le_of_ble_eq_true rfl)).trans (congrArg some (bW_congr (fun k h => ?_)))
  match k, h with
  | 0, _ => rfl
  | 1, _ => rfl
  | 2, _ => rfl
  | 3, _ => rfl
  | 4, _ => rfl
  | 5, _ => rfl
  | 6, _ => rfl
  | 7, _ => rfl
  | 8, _ => rfl
  | 9, _ => rfl
  | 10, _ => rfl
  | k + 11, h => omega
theorem Mo_p11 {x : Int32} (hz : x = 0 ∨ x = 1) : hp_pZ (bk_Mo σ a R) a 10 11 x = some (bk_Mo σ a (upd R.1 11 x, R.2)) := by
  unfold hp_pZ
  rw [if_pos hz]
  exact Mo_q11
theorem Mo_g12 : hp_gR (bk_Mo σ a R) a 10 12 = some (a + 9) := bk_gR (k := 0) (Nat.zero_lt_succ _) rfl rfl rfl
theorem Mo_r12 : hp_row (bk_Mo σ a R) (a + 9) 0 = some (480, R.2 12) := bk_row (k := 9) (Nat.le_of_ble_eq_true rfl) rfl rfl
theorem Mo_a12 {i : Nat} (h : i < 480) : hp_aI (bk_Mo σ a R) (a + 9) 0 (nI i) = some (R.2 12 i) := bk_aI (k := 9) (Nat.le_of_ble_eq_true rfl) rfl rfl h (by decide)
theorem Mo_s12 {i : Nat} {x : Int32} (hi : i < 480) : hp_sI (bk_Mo σ a R) (a + 9) 0 (nI i) x = some (bk_Mo σ a (R.1, up2 R.2 12 i x)) := by
  refine (bk_sI (k := 9) (Nat.le_of_ble_eq_true rfl) rfl rfl hi (by decide)).trans (congrArg some (bW_congr (fun k h => ?_)))
  match k, h with
  | 0, _ => rfl
  | 1, _ => rfl
  | 2, _ => rfl
  | 3, _ => rfl
  | 4, _ => rfl
  | 5, _ => rfl
  | 6, _ => rfl
  | 7, _ => rfl
  | 8, _ => rfl
  | 9, _ => rfl
  | 10, _ => rfl
  | k + 11, h => omega
theorem Mo_n12 : hp_ln (bk_Mo σ a R) (a + 9) 0 = some (nI 480) := bk_ln (k := 9) (Nat.le_of_ble_eq_true rfl) rfl rfl
theorem Mo_g13 : hp_gI (bk_Mo σ a R) a 10 13 = some (R.1 13) := bk_gI (k := 0) (Nat.zero_lt_succ _) rfl rfl rfl
theorem Mo_q13 {x : Int32} : hp_pV (bk_Mo σ a R) a 10 13 (.int x) = some (bk_Mo σ a (upd R.1 13 x, R.2)) := by
  refine (bk_pV (k := 0) (Nat.zero_lt_succ _) rfl rfl (Nat.le_of_ble_eq_true rfl)).trans (congrArg some (bW_congr (fun k h => ?_)))
  match k, h with
  | 0, _ => rfl
  | 1, _ => rfl
  | 2, _ => rfl
  | 3, _ => rfl
  | 4, _ => rfl
  | 5, _ => rfl
  | 6, _ => rfl
  | 7, _ => rfl
  | 8, _ => rfl
  | 9, _ => rfl
  | 10, _ => rfl
  | k + 11, h => omega
theorem Mo_p13 {x : Int32} : hp_pI (bk_Mo σ a R) a 10 13 x = some (bk_Mo σ a (upd R.1 13 x, R.2)) := Mo_q13
theorem Mo_g14 : hp_gR (bk_Mo σ a R) a 10 14 = some (a + 10) := bk_gR (k := 0) (Nat.zero_lt_succ _) rfl rfl rfl
theorem Mo_r14 : hp_row (bk_Mo σ a R) (a + 10) 0 = some (6, R.2 14) := bk_row (k := 10) (Nat.le_of_ble_eq_true rfl) rfl rfl
theorem Mo_a14 {i : Nat} (h : i < 6) : hp_aI (bk_Mo σ a R) (a + 10) 0 (nI i) = some (R.2 14 i) := bk_aI (k := 10) (Nat.le_of_ble_eq_true rfl) rfl rfl h (by decide)
theorem Mo_s14 {i : Nat} {x : Int32} (hi : i < 6) : hp_sI (bk_Mo σ a R) (a + 10) 0 (nI i) x = some (bk_Mo σ a (R.1, up2 R.2 14 i x)) := by
  refine (bk_sI (k := 10) (Nat.le_of_ble_eq_true rfl) rfl rfl hi (by decide)).trans (congrArg some (bW_congr (fun k h => ?_)))
  match k, h with
  | 0, _ => rfl
  | 1, _ => rfl
  | 2, _ => rfl
  | 3, _ => rfl
  | 4, _ => rfl
  | 5, _ => rfl
  | 6, _ => rfl
  | 7, _ => rfl
  | 8, _ => rfl
  | 9, _ => rfl
  | 10, _ => rfl
  | k + 11, h => omega
theorem Mo_n14 : hp_ln (bk_Mo σ a R) (a + 10) 0 = some (nI 6) := bk_ln (k := 10) (Nat.le_of_ble_eq_true rfl) rfl rfl
theorem Mo_g15 : hp_gI (bk_Mo σ a R) a 10 15 = some (R.1 15) := bk_gI (k := 0) (Nat.zero_lt_succ _) rfl rfl rfl
theorem Mo_q15 {x : Int32} : hp_pV (bk_Mo σ a R) a 10 15 (.int x) = some (bk_Mo σ a (upd R.1 15 x, R.2)) := by
  refine (bk_pV (k := 0) (Nat.zero_lt_succ _) rfl rfl (Nat.le_of_ble_eq_true rfl)).trans (congrArg some (bW_congr (fun k h => ?_)))
  match k, h with
  | 0, _ => rfl
  | 1, _ => rfl
  | 2, _ => rfl
  | 3, _ => rfl
  | 4, _ => rfl
  | 5, _ => rfl
  | 6, _ => rfl
  | 7, _ => rfl
  | 8, _ => rfl
  | 9, _ => rfl
  | 10, _ => rfl
  | k + 11, h => omega
theorem Mo_p15 {x : Int32} : hp_pI (bk_Mo σ a R) a 10 15 x = some (bk_Mo σ a (upd R.1 15 x, R.2)) := Mo_q15
theorem Mo_g16 : hp_gI (bk_Mo σ a R) a 10 16 = some (R.1 16) := bk_gI (k := 0) (Nat.zero_lt_succ _) rfl rfl rfl
theorem Mo_q16 {x : Int32} : hp_pV (bk_Mo σ a R) a 10 16 (.int x) = some (bk_Mo σ a (upd R.1 16 x, R.2)) := by
  refine (bk_pV (k := 0) (Nat.zero_lt_succ _) rfl rfl (Nat.le_of_ble_eq_true rfl)).trans (congrArg some (bW_congr (fun k h => ?_)))
  match k, h with
  | 0, _ => rfl
  | 1, _ => rfl
  | 2, _ => rfl
  | 3, _ => rfl
  | 4, _ => rfl
  | 5, _ => rfl
  | 6, _ => rfl
  | 7, _ => rfl
  | 8, _ => rfl
  | 9, _ => rfl
  | 10, _ => rfl
  | k + 11, h => omega
theorem Mo_p16 {x : Int32} : hp_pI (bk_Mo σ a R) a 10 16 x = some (bk_Mo σ a (upd R.1 16 x, R.2)) := Mo_q16
theorem Mo_g17 : hp_gI (bk_Mo σ a R) a 10 17 = some (R.1 17) := bk_gI (k := 0) (Nat.zero_lt_succ _) rfl rfl rfl
theorem Mo_q17 {x : Int32} : hp_pV (bk_Mo σ a R) a 10 17 (.int x) = some (bk_Mo σ a (upd R.1 17 x, R.2)) := by
  refine (bk_pV (k := 0) (Nat.zero_lt_succ _) rfl rfl (Nat.le_of_ble_eq_true rfl)).trans (congrArg some (bW_congr (fun k h => ?_)))
  match k, h with
  | 0, _ => rfl
  | 1, _ => rfl
  | 2, _ => rfl
  | 3, _ => rfl
  | 4, _ => rfl
  | 5, _ => rfl
  | 6, _ => rfl
  | 7, _ => rfl
  | 8, _ => rfl
  | 9, _ => rfl
  | 10, _ => rfl
  | k + 11, h => omega
theorem Mo_p17 {x : Int32} : hp_pI (bk_Mo σ a R) a 10 17 x = some (bk_Mo σ a (upd R.1 17 x, R.2)) := Mo_q17
theorem Mo_g18 : hp_gI (bk_Mo σ a R) a 10 18 = some (R.1 18) := bk_gI (k := 0) (Nat.zero_lt_succ _) rfl rfl rfl
theorem Mo_q18 {x : Int32} : hp_pV (bk_Mo σ a R) a 10 18 (.int x) = some (bk_Mo σ a (upd R.1 18 x, R.2)) := by
  refine (bk_pV (k := 0) (Nat.zero_lt_succ _) rfl rfl (Nat.le_of_ble_eq_true rfl)).trans (congrArg some (bW_congr (fun k h => ?_)))
  match k, h with
  | 0, _ => rfl
  | 1, _ => rfl
  | 2, _ => rfl
  | 3, _ => rfl
  | 4, _ => rfl
  | 5, _ => rfl
  | 6, _ => rfl
  | 7, _ => rfl
  | 8, _ => rfl
  | 9, _ => rfl
  | 10, _ => rfl
  | k + 11, h => omega
theorem Mo_p18 {x : Int32} : hp_pI (bk_Mo σ a R) a 10 18 x = some (bk_Mo σ a (upd R.1 18 x, R.2)) := Mo_q18
end
end
section
/-! ===== where a notice goes: a closure in a tree ===== -/
def anc (ab : Nat → Nat) (b : Nat) : Nat → Nat
  | 0 => b
  | k + 1 => ab (anc ab b k)
def liv (ab : Nat → Nat) (b k : Nat) : Prop := ∀ j, j < k → anc ab b j ≠ 0
/-- the way from y to b begins with x -/
def NH (ab : Nat → Nat) (b y x : Nat) : Prop := ((¬ ∃ k, liv ab b k ∧ anc ab b k = y) ∧ y ≠ 0 ∧ ab y = x) ∨ ∃ k, liv ab b (k + 1) ∧ anc ab b (k + 1) = y ∧ anc ab b k = x
section JOURN
variable {B : Nat} {ab : Nat → Nat} {b : Nat}
theorem anc_lt (hT : ∀ b, b ≠ 0 → b < B → ab b < b) (hb : b < B) : ∀ (k : Nat), liv ab b k → anc ab b k < B ∧ ∀ j, j < k → anc ab b k < anc ab b j
  | 0, _ => ⟨hb, fun j hj => by omega⟩
  | k + 1, h => by
    obtain ⟨h1, h2⟩ := anc_lt hT hb k (fun j hj => h j (by omega))
    have h3 := hT (anc ab b k) (h k (by omega)) h1
    have e : anc ab b (k + 1) = ab (anc ab b k) := rfl
    refine ⟨by rw [e]; omega, fun j hj => ?_⟩
    rw [e]
    by_cases hk : j = k
    · rw [hk]; exact h3
    · have := h2 j (by omega)
      omega
theorem NH_uni (hT : ∀ b, b ≠ 0 → b < B → ab b < b) (hb : b < B) {y x x' : Nat} (h : NH ab b y x) (h' : NH ab b y x') : x = x' := by
  rcases h with ⟨h1, h2, h3⟩ | ⟨k, h1, h2, h3⟩
  · rcases h' with ⟨k1, k2, k3⟩ | ⟨k, k1, k2, k3⟩
    · rw [← h3, ← k3]
    · exact absurd ⟨k + 1, k1, k2⟩ h1
  · rcases h' with ⟨k1, k2, k3⟩ | ⟨k', k1, k2, k3⟩
    · exact absurd ⟨k + 1, h1, h2⟩ k1
    · have e1 := (anc_lt hT hb _ h1).2
      have e2 := (anc_lt hT hb _ k1).2
      have : k = k' := by
        rcases Nat.lt_trichotomy k k' with q | q | q
        · have := e2 (k + 1) (by omega)
          omega
        · exact q
        · have := e1 (k' + 1) (by omega)
          omega
      rw [← h3, ← k3, this]
theorem NH_or {x y : Nat} (h : nbr ab x y) : NH ab b y x ∨ NH ab b x y := by
  have key : ∀ u v : Nat, u ≠ 0 → ab u = v → NH ab b u v ∨ NH ab b v u := by
    intro u v h1 h2
    by_cases hc : ∃ k, liv ab b k ∧ anc ab b k = u
    · obtain ⟨k, q1, q2⟩ := hc
      refine Or.inr (Or.inr ⟨k, fun j hj => ?_, ?_, q2⟩)
      · by_cases hk : j = k
        · rw [hk, q2]; exact h1
        · exact q1 j (by omega)
      · show ab (anc ab b k) = v
        rw [q2, h2]
    · exact Or.inl (Or.inl ⟨hc, h1, h2⟩)
  rcases h with ⟨h1, h2⟩ | ⟨h1, h2⟩
  · rcases key x y h1 h2 with q | q
    · exact Or.inr q
    · exact Or.inl q
  · exact key y x h1 h2
theorem NH_no (hT : ∀ b, b ≠ 0 → b < B → ab b < b) (hb : b < B) {x : Nat} : ¬ NH ab b b x := by
  rintro (⟨h1, -, -⟩ | ⟨k, h1, h2, -⟩)
  · exact h1 ⟨0, fun j hj => by omega, rfl⟩
  · have := (anc_lt hT hb _ h1).2 0 (by omega)
    have e : anc ab b 0 = b := rfl
    omega
/-- what can be reached -/
def Rch (B : Nat) (ab : Nat → Nat) (E : Nat → Nat → Prop) (b x : Nat) : Prop := ∀ S : Nat → Prop, S b → (∀ u v, S u → v < B → nbr ab u v → E u v → S v) → S x
def cnt (P : Nat) : Nat → Nat
  | 0 => 0
  | n + 1 => cnt P n + (if P.testBit n = true then 1 else 0)
/-- on the way: places P, those from which it went further F, links c -/
def JI (B : Nat) (ab : Nat → Nat) (E : Nat → Nat → Prop) (b P F c : Nat) : Prop :=
  (∀ x, P.testBit x = true → x < B ∧ Rch B ab E b x) ∧ P.testBit b = true ∧ (∀ y, P.testBit y = true → y ≠ b → ∃ x, P.testBit x = true ∧ NH ab b y x) ∧ (∀ x, F.testBit x = true ↔ ∃ y, P.testBit y = true ∧ NH ab b y x) ∧ c + 1 = cnt P B
def clo (B : Nat) (ab : Nat → Nat) (E : Nat → Nat → Prop) (P : Nat) : Prop := ∀ x y, P.testBit x = true → y < B → nbr ab x y → E x y → P.testBit y = true
theorem tb_or {P k j : Nat} : (P ||| 2 ^ k).testBit j = true ↔ P.testBit j = true ∨ j = k := by
  rw [Nat.testBit_or, Nat.testBit_two_pow, Bool.or_eq_true, decide_eq_true_eq]
  constructor
  · rintro (h | h)
    · exact Or.inl h
    · exact Or.inr h.symm
  · rintro (h | h)
    · exact Or.inl h
    · exact Or.inr h.symm
theorem tb_one {k j : Nat} : (2 ^ k : Nat).testBit j = true ↔ j = k := by
  rw [Nat.testBit_two_pow, decide_eq_true_eq]
  exact ⟨fun h => h.symm, fun h => h.symm⟩
theorem cnt_or {P k : Nat} (hk : P.testBit k = false) : ∀ n, cnt (P ||| 2 ^ k) n = cnt P n + (if k < n then 1 else 0)
  | 0 => by
    unfold cnt
    rw [if_neg (by omega)]
  | n + 1 => by
    unfold cnt
    rw [cnt_or hk n]
    by_cases h : n = k
    · subst h
      have e1 : (P ||| 2 ^ n).testBit n = true := tb_or.mpr (Or.inr rfl)
      rw [if_pos e1, if_neg (by omega), if_neg (by rw [hk]; decide), if_pos (by omega)]
    · have e2 : (P ||| 2 ^ k).testBit n = true ↔ P.testBit n = true := by
        rw [tb_or]
        exact ⟨fun q => q.resolve_right h, Or.inl⟩
      by_cases h3 : P.testBit n = true
      · rw [if_pos h3, if_pos (e2.mpr h3)]
        by_cases h4 : k < n
        · rw [if_pos h4, if_pos (by omega)]
        · rw [if_neg h4, if_neg (by omega)]
      · rw [if_neg h3, if_neg (fun q => h3 (e2.mp q))]
        by_cases h4 : k < n
        · rw [if_pos h4, if_pos (by omega)]
        · rw [if_neg h4, if_neg (by omega)]
theorem cnt_zero : ∀ n, cnt 0 n = 0
  | 0 => rfl
  | n + 1 => by
    unfold cnt
    rw [cnt_zero n, if_neg (by simp)]
theorem JI_0 (hT : ∀ b, b ≠ 0 → b < B → ab b < b) (hb : b < B) {E : Nat → Nat → Prop} : JI B ab E b (2 ^ b) 0 0 := by
  refine ⟨fun x hx => ?_, tb_one.mpr rfl, fun y hy hyb => absurd (tb_one.mp hy) hyb, fun x => ⟨fun h => by simp at h, ?_⟩, ?_⟩
  · rw [tb_one.mp hx]
    exact ⟨hb, fun S h1 _ => h1⟩
  · rintro ⟨y, h1, h2⟩
    rw [tb_one.mp h1] at h2
    exact absurd h2 (NH_no hT hb)
  · have := cnt_or (P := 0) (k := b) (by simp) B
    rw [Nat.zero_or, cnt_zero, if_pos hb] at this
    rw [this]
theorem JI_add (hT : ∀ b, b ≠ 0 → b < B → ab b < b) (hb : b < B) {E : Nat → Nat → Prop} {P F c x y : Nat} (h : JI B ab E b P F c) (hx : P.testBit x = true) (hy : P.testBit y = false) (hyB : y < B) (hn : nbr ab x y) (hE : E x y) : JI B ab E b (P ||| 2 ^ y) (F ||| 2 ^ x) (c + 1) := by
  obtain ⟨h1, h2, h3, h4, h5⟩ := h
  have hNH : NH ab b y x := by
    rcases NH_or (b := b) hn with q | q
    · exact q
    · by_cases hxb : x = b
      · rw [hxb] at q
        exact absurd q (NH_no hT hb)
      · obtain ⟨z, z1, z2⟩ := h3 x hx hxb
        rw [NH_uni hT hb z2 q, hy] at z1
        cases z1
  refine ⟨fun z hz => ?_, tb_or.mpr (Or.inl h2), fun z hz hzb => ?_, fun z => ?_, ?_⟩
  · rcases tb_or.mp hz with q | q
    · exact h1 z q
    · rw [q]
      exact ⟨hyB, fun S s1 s2 => s2 x y ((h1 x hx).2 S s1 s2) hyB hn hE⟩
  · rcases tb_or.mp hz with q | q
    · obtain ⟨u, u1, u2⟩ := h3 z q hzb
      exact ⟨u, tb_or.mpr (Or.inl u1), u2⟩
    · rw [q]
      exact ⟨x, tb_or.mpr (Or.inl hx), hNH⟩
  · rw [tb_or, h4 z]
    constructor
    · rintro (⟨u, u1, u2⟩ | q)
      · exact ⟨u, tb_or.mpr (Or.inl u1), u2⟩
      · rw [q]
        exact ⟨y, tb_or.mpr (Or.inr rfl), hNH⟩
    · rintro ⟨u, u1, u2⟩
      rcases tb_or.mp u1 with q | q
      · exact Or.inl ⟨u, q, u2⟩
      · rw [q] at u2
        exact Or.inr (NH_uni hT hb u2 hNH)
  · rw [cnt_or hy, if_pos hyB, h5]
theorem JI_uni {E : Nat → Nat → Prop} {P F c P' F' c' : Nat} (h : JI B ab E b P F c) (hc : clo B ab E P) (h' : JI B ab E b P' F' c') (hc' : clo B ab E P') : P = P' ∧ F = F' ∧ c = c' := by
  have key : ∀ (P Q F F' c c' : Nat), JI B ab E b P F c → JI B ab E b Q F' c' → clo B ab E Q → ∀ x, P.testBit x = true → Q.testBit x = true := by
    intro P Q F F' c c' g g' gc x hx
    exact (g.1 x hx).2 (fun z => Q.testBit z = true) g'.2.1 (fun u v hu hv hn he => gc u v hu hv hn he)
  have eP : P = P' := by
    apply Nat.eq_of_testBit_eq
    intro i
    have a := key P P' F F' c c' h h' hc' i
    have d := key P' P F' F c' c h' h hc i
    cases e1 : P.testBit i with
    | true => rw [a e1]
    | false =>
      cases e2 : P'.testBit i with
      | true => rw [d e2] at e1; cases e1
      | false => rfl
  subst eP
  refine ⟨rfl, ?_, ?_⟩
  · apply Nat.eq_of_testBit_eq
    intro i
    have a := h.2.2.2.1 i
    have d := h'.2.2.2.1 i
    cases e1 : F.testBit i with
    | true => rw [d.mpr (a.mp e1)]
    | false =>
      cases e2 : F'.testBit i with
      | true => rw [a.mpr (d.mp e2)] at e1; cases e1
      | false => rfl
  · have := h.2.2.2.2
    have := h'.2.2.2.2
    omega
end JOURN
end
