-- ===== PART A: goes FIRST, ahead of the names: the tables' words, and 'selects' of the private methods out of them =====
/-- a private method of a class that the tables say can be made, by its rows of tables_1 -/
def lw_okq (q : MethodName × Nat) : Prop := (q.1.cls ≠ "java/lang/invoke/MethodHandle" ∧ q.1.cls ≠ "java/lang/invoke/VarHandle") ∧ Cond.instantiable q.1.cls q.2 ∈ tables_1 ∧ Cond.privateMethod q.1 ∈ tables_1 ∧ Cond.instanceMethod q.1 ∈ tables_1
theorem lw_p0 : lw_okq (⟨"ShortVectors", "ask", "(IIIII)Z"⟩, 12) := ⟨⟨by decide +kernel, by decide +kernel⟩, List.mem_of_getElem? (i := 13) (by decide +kernel), List.mem_of_getElem? (i := 165) (by decide +kernel), List.mem_of_getElem? (i := 166) (by decide +kernel)⟩
theorem lw_p1 : lw_okq (⟨"ShortVectors$Echelon", "merge", "([JI)V"⟩, 2) := ⟨⟨by decide +kernel, by decide +kernel⟩, List.mem_of_getElem? (i := 23) (by decide +kernel), List.mem_of_getElem? (i := 180) (by decide +kernel), List.mem_of_getElem? (i := 181) (by decide +kernel)⟩
theorem lw_p2 : lw_okq (⟨"ShortVectors$Echelon", "shorten", "(I)V"⟩, 2) := ⟨⟨by decide +kernel, by decide +kernel⟩, List.mem_of_getElem? (i := 23) (by decide +kernel), List.mem_of_getElem? (i := 189) (by decide +kernel), List.mem_of_getElem? (i := 190) (by decide +kernel)⟩
theorem lw_p3 : lw_okq (⟨"ShortVectors", "forget", "()V"⟩, 12) := ⟨⟨by decide +kernel, by decide +kernel⟩, List.mem_of_getElem? (i := 13) (by decide +kernel), List.mem_of_getElem? (i := 200) (by decide +kernel), List.mem_of_getElem? (i := 201) (by decide +kernel)⟩
theorem lw_p4 : lw_okq (⟨"ShortVectors", "gather", "(LShortVectors$Echelon;I)V"⟩, 12) := ⟨⟨by decide +kernel, by decide +kernel⟩, List.mem_of_getElem? (i := 13) (by decide +kernel), List.mem_of_getElem? (i := 208) (by decide +kernel), List.mem_of_getElem? (i := 209) (by decide +kernel)⟩
theorem lw_p5 : lw_okq (⟨"ShortVectors", "readyBasis", "()LShortVectors$Basis;"⟩, 12) := ⟨⟨by decide +kernel, by decide +kernel⟩, List.mem_of_getElem? (i := 13) (by decide +kernel), List.mem_of_getElem? (i := 235) (by decide +kernel), List.mem_of_getElem? (i := 236) (by decide +kernel)⟩
theorem lw_p6 : lw_okq (⟨"ShortVectors$Basis", "reduce", "()V"⟩, 8) := ⟨⟨by decide +kernel, by decide +kernel⟩, List.mem_of_getElem? (i := 38) (by decide +kernel), List.mem_of_getElem? (i := 249) (by decide +kernel), List.mem_of_getElem? (i := 250) (by decide +kernel)⟩
theorem lw_p7 : lw_okq (⟨"ShortVectors$Basis", "shortenByPairs", "()Z"⟩, 8) := ⟨⟨by decide +kernel, by decide +kernel⟩, List.mem_of_getElem? (i := 38) (by decide +kernel), List.mem_of_getElem? (i := 254) (by decide +kernel), List.mem_of_getElem? (i := 255) (by decide +kernel)⟩
theorem lw_p8 : lw_okq (⟨"ShortVectors$Basis", "shortenBy", "(II)Z"⟩, 8) := ⟨⟨by decide +kernel, by decide +kernel⟩, List.mem_of_getElem? (i := 38) (by decide +kernel), List.mem_of_getElem? (i := 258) (by decide +kernel), List.mem_of_getElem? (i := 259) (by decide +kernel)⟩
theorem lw_p9 : lw_okq (⟨"ShortVectors$Basis", "shortenBySums", "()Z"⟩, 8) := ⟨⟨by decide +kernel, by decide +kernel⟩, List.mem_of_getElem? (i := 38) (by decide +kernel), List.mem_of_getElem? (i := 275) (by decide +kernel), List.mem_of_getElem? (i := 276) (by decide +kernel)⟩
theorem lw_p10 : lw_okq (⟨"ShortVectors$Basis", "shortenByChoice", "(II)Z"⟩, 8) := ⟨⟨by decide +kernel, by decide +kernel⟩, List.mem_of_getElem? (i := 38) (by decide +kernel), List.mem_of_getElem? (i := 279) (by decide +kernel), List.mem_of_getElem? (i := 280) (by decide +kernel)⟩
theorem lw_p11 : lw_okq (⟨"ShortVectors$Basis", "sort", "()V"⟩, 8) := ⟨⟨by decide +kernel, by decide +kernel⟩, List.mem_of_getElem? (i := 38) (by decide +kernel), List.mem_of_getElem? (i := 283) (by decide +kernel), List.mem_of_getElem? (i := 284) (by decide +kernel)⟩
theorem lw_p12 : lw_okq (⟨"ShortVectors$Basis", "direct", "(I)V"⟩, 8) := ⟨⟨by decide +kernel, by decide +kernel⟩, List.mem_of_getElem? (i := 38) (by decide +kernel), List.mem_of_getElem? (i := 291) (by decide +kernel), List.mem_of_getElem? (i := 292) (by decide +kernel)⟩
theorem lw_p13 : lw_okq (⟨"ShortVectors$Basis", "eliminate", "(IJ)V"⟩, 8) := ⟨⟨by decide +kernel, by decide +kernel⟩, List.mem_of_getElem? (i := 38) (by decide +kernel), List.mem_of_getElem? (i := 310) (by decide +kernel), List.mem_of_getElem? (i := 311) (by decide +kernel)⟩
theorem lw_p14 : lw_okq (⟨"ShortVectors$Basis", "squareOutside", "([J)J"⟩, 8) := ⟨⟨by decide +kernel, by decide +kernel⟩, List.mem_of_getElem? (i := 38) (by decide +kernel), List.mem_of_getElem? (i := 373) (by decide +kernel), List.mem_of_getElem? (i := 374) (by decide +kernel)⟩
theorem lw_p15 : lw_okq (⟨"ShortVectors$Basis", "descend", "(IJLShortVectors$Collector;)V"⟩, 8) := ⟨⟨by decide +kernel, by decide +kernel⟩, List.mem_of_getElem? (i := 38) (by decide +kernel), List.mem_of_getElem? (i := 378) (by decide +kernel), List.mem_of_getElem? (i := 379) (by decide +kernel)⟩
def lw_privs_1 : List (MethodName × Nat) := [(⟨"ShortVectors", "ask", "(IIIII)Z"⟩, 12), (⟨"ShortVectors$Echelon", "merge", "([JI)V"⟩, 2), (⟨"ShortVectors$Echelon", "shorten", "(I)V"⟩, 2), (⟨"ShortVectors", "forget", "()V"⟩, 12), (⟨"ShortVectors", "gather", "(LShortVectors$Echelon;I)V"⟩, 12), (⟨"ShortVectors", "readyBasis", "()LShortVectors$Basis;"⟩, 12), (⟨"ShortVectors$Basis", "reduce", "()V"⟩, 8), (⟨"ShortVectors$Basis", "shortenByPairs", "()Z"⟩, 8), (⟨"ShortVectors$Basis", "shortenBy", "(II)Z"⟩, 8), (⟨"ShortVectors$Basis", "shortenBySums", "()Z"⟩, 8), (⟨"ShortVectors$Basis", "shortenByChoice", "(II)Z"⟩, 8), (⟨"ShortVectors$Basis", "sort", "()V"⟩, 8), (⟨"ShortVectors$Basis", "direct", "(I)V"⟩, 8), (⟨"ShortVectors$Basis", "eliminate", "(IJ)V"⟩, 8), (⟨"ShortVectors$Basis", "squareOutside", "([J)J"⟩, 8), (⟨"ShortVectors$Basis", "descend", "(IJLShortVectors$Collector;)V"⟩, 8)]
theorem lw_r1 : ∀ q ∈ lw_privs_1, lw_okq q := List.forall_mem_cons.mpr ⟨lw_p0, List.forall_mem_cons.mpr ⟨lw_p1, List.forall_mem_cons.mpr ⟨lw_p2, List.forall_mem_cons.mpr ⟨lw_p3, List.forall_mem_cons.mpr ⟨lw_p4, List.forall_mem_cons.mpr ⟨lw_p5, List.forall_mem_cons.mpr ⟨lw_p6, List.forall_mem_cons.mpr ⟨lw_p7, List.forall_mem_cons.mpr ⟨lw_p8, List.forall_mem_cons.mpr ⟨lw_p9, List.forall_mem_cons.mpr ⟨lw_p10, List.forall_mem_cons.mpr ⟨lw_p11, List.forall_mem_cons.mpr ⟨lw_p12, List.forall_mem_cons.mpr ⟨lw_p13, List.forall_mem_cons.mpr ⟨lw_p14, List.forall_mem_cons.mpr ⟨lw_p15, fun _ h => absurd h List.not_mem_nil⟩⟩⟩⟩⟩⟩⟩⟩⟩⟩⟩⟩⟩⟩⟩⟩
theorem lw_p16 : lw_okq (⟨"ShortVectors$FirstVectors", "precedes", "([JJI)Z"⟩, 5) := ⟨⟨by decide +kernel, by decide +kernel⟩, List.mem_of_getElem? (i := 90) (by decide +kernel), List.mem_of_getElem? (i := 404) (by decide +kernel), List.mem_of_getElem? (i := 405) (by decide +kernel)⟩
theorem lw_p17 : lw_okq (⟨"ShortVectors$FirstVectors", "insert", "([JJI)V"⟩, 5) := ⟨⟨by decide +kernel, by decide +kernel⟩, List.mem_of_getElem? (i := 90) (by decide +kernel), List.mem_of_getElem? (i := 409) (by decide +kernel), List.mem_of_getElem? (i := 410) (by decide +kernel)⟩
theorem lw_p18 : lw_okq (⟨"ShortVectors$Basis", "walk", "(IJIJLShortVectors$Collector;)V"⟩, 8) := ⟨⟨by decide +kernel, by decide +kernel⟩, List.mem_of_getElem? (i := 38) (by decide +kernel), List.mem_of_getElem? (i := 426) (by decide +kernel), List.mem_of_getElem? (i := 427) (by decide +kernel)⟩
theorem lw_p19 : lw_okq (⟨"ShortVectorsModel", "changed", "()V"⟩, 27) := ⟨⟨by decide +kernel, by decide +kernel⟩, List.mem_of_getElem? (i := 485) (by decide +kernel), List.mem_of_getElem? (i := 580) (by decide +kernel), List.mem_of_getElem? (i := 581) (by decide +kernel)⟩
theorem lw_p20 : lw_okq (⟨"ShortVectorsModel", "look", "(I)V"⟩, 27) := ⟨⟨by decide +kernel, by decide +kernel⟩, List.mem_of_getElem? (i := 485) (by decide +kernel), List.mem_of_getElem? (i := 596) (by decide +kernel), List.mem_of_getElem? (i := 597) (by decide +kernel)⟩
theorem lw_p21 : lw_okq (⟨"ShortVectorsModel", "enter", "()V"⟩, 27) := ⟨⟨by decide +kernel, by decide +kernel⟩, List.mem_of_getElem? (i := 485) (by decide +kernel), List.mem_of_getElem? (i := 600) (by decide +kernel), List.mem_of_getElem? (i := 601) (by decide +kernel)⟩
theorem lw_p22 : lw_okq (⟨"ShortVectorsModel", "rowAt", "(I)I"⟩, 27) := ⟨⟨by decide +kernel, by decide +kernel⟩, List.mem_of_getElem? (i := 485) (by decide +kernel), List.mem_of_getElem? (i := 604) (by decide +kernel), List.mem_of_getElem? (i := 605) (by decide +kernel)⟩
theorem lw_p23 : lw_okq (⟨"ShortVectorsModel", "tidy", "(I)V"⟩, 27) := ⟨⟨by decide +kernel, by decide +kernel⟩, List.mem_of_getElem? (i := 485) (by decide +kernel), List.mem_of_getElem? (i := 608) (by decide +kernel), List.mem_of_getElem? (i := 609) (by decide +kernel)⟩
theorem lw_p24 : lw_okq (⟨"ShortVectorsModel", "insert", "(I)V"⟩, 27) := ⟨⟨by decide +kernel, by decide +kernel⟩, List.mem_of_getElem? (i := 485) (by decide +kernel), List.mem_of_getElem? (i := 615) (by decide +kernel), List.mem_of_getElem? (i := 616) (by decide +kernel)⟩
theorem lw_p25 : lw_okq (⟨"ShortVectorsModel", "divide", "(I)V"⟩, 27) := ⟨⟨by decide +kernel, by decide +kernel⟩, List.mem_of_getElem? (i := 485) (by decide +kernel), List.mem_of_getElem? (i := 619) (by decide +kernel), List.mem_of_getElem? (i := 620) (by decide +kernel)⟩
theorem lw_p26 : lw_okq (⟨"ShortVectorsModel", "swap", "(I)V"⟩, 27) := ⟨⟨by decide +kernel, by decide +kernel⟩, List.mem_of_getElem? (i := 485) (by decide +kernel), List.mem_of_getElem? (i := 623) (by decide +kernel), List.mem_of_getElem? (i := 624) (by decide +kernel)⟩
theorem lw_p27 : lw_okq (⟨"ShortVectorsModel", "two", "(IIII)J"⟩, 27) := ⟨⟨by decide +kernel, by decide +kernel⟩, List.mem_of_getElem? (i := 485) (by decide +kernel), List.mem_of_getElem? (i := 631) (by decide +kernel), List.mem_of_getElem? (i := 632) (by decide +kernel)⟩
theorem lw_p28 : lw_okq (⟨"ShortVectorsModel", "three", "(III)J"⟩, 27) := ⟨⟨by decide +kernel, by decide +kernel⟩, List.mem_of_getElem? (i := 485) (by decide +kernel), List.mem_of_getElem? (i := 635) (by decide +kernel), List.mem_of_getElem? (i := 636) (by decide +kernel)⟩
theorem lw_p29 : lw_okq (⟨"ShortVectorsModel", "set", "(IIII)V"⟩, 27) := ⟨⟨by decide +kernel, by decide +kernel⟩, List.mem_of_getElem? (i := 485) (by decide +kernel), List.mem_of_getElem? (i := 643) (by decide +kernel), List.mem_of_getElem? (i := 644) (by decide +kernel)⟩
theorem lw_p30 : lw_okq (⟨"ShortVectorsModel", "times", "()J"⟩, 27) := ⟨⟨by decide +kernel, by decide +kernel⟩, List.mem_of_getElem? (i := 485) (by decide +kernel), List.mem_of_getElem? (i := 647) (by decide +kernel), List.mem_of_getElem? (i := 648) (by decide +kernel)⟩
theorem lw_p31 : lw_okq (⟨"ShortVectorsModel", "origin", "()V"⟩, 27) := ⟨⟨by decide +kernel, by decide +kernel⟩, List.mem_of_getElem? (i := 485) (by decide +kernel), List.mem_of_getElem? (i := 667) (by decide +kernel), List.mem_of_getElem? (i := 668) (by decide +kernel)⟩
def lw_privs_2 : List (MethodName × Nat) := [(⟨"ShortVectors$FirstVectors", "precedes", "([JJI)Z"⟩, 5), (⟨"ShortVectors$FirstVectors", "insert", "([JJI)V"⟩, 5), (⟨"ShortVectors$Basis", "walk", "(IJIJLShortVectors$Collector;)V"⟩, 8), (⟨"ShortVectorsModel", "changed", "()V"⟩, 27), (⟨"ShortVectorsModel", "look", "(I)V"⟩, 27), (⟨"ShortVectorsModel", "enter", "()V"⟩, 27), (⟨"ShortVectorsModel", "rowAt", "(I)I"⟩, 27), (⟨"ShortVectorsModel", "tidy", "(I)V"⟩, 27), (⟨"ShortVectorsModel", "insert", "(I)V"⟩, 27), (⟨"ShortVectorsModel", "divide", "(I)V"⟩, 27), (⟨"ShortVectorsModel", "swap", "(I)V"⟩, 27), (⟨"ShortVectorsModel", "two", "(IIII)J"⟩, 27), (⟨"ShortVectorsModel", "three", "(III)J"⟩, 27), (⟨"ShortVectorsModel", "set", "(IIII)V"⟩, 27), (⟨"ShortVectorsModel", "times", "()J"⟩, 27), (⟨"ShortVectorsModel", "origin", "()V"⟩, 27)]
theorem lw_r2 : ∀ q ∈ lw_privs_2, lw_okq q := List.forall_mem_cons.mpr ⟨lw_p16, List.forall_mem_cons.mpr ⟨lw_p17, List.forall_mem_cons.mpr ⟨lw_p18, List.forall_mem_cons.mpr ⟨lw_p19, List.forall_mem_cons.mpr ⟨lw_p20, List.forall_mem_cons.mpr ⟨lw_p21, List.forall_mem_cons.mpr ⟨lw_p22, List.forall_mem_cons.mpr ⟨lw_p23, List.forall_mem_cons.mpr ⟨lw_p24, List.forall_mem_cons.mpr ⟨lw_p25, List.forall_mem_cons.mpr ⟨lw_p26, List.forall_mem_cons.mpr ⟨lw_p27, List.forall_mem_cons.mpr ⟨lw_p28, List.forall_mem_cons.mpr ⟨lw_p29, List.forall_mem_cons.mpr ⟨lw_p30, List.forall_mem_cons.mpr ⟨lw_p31, fun _ h => absurd h List.not_mem_nil⟩⟩⟩⟩⟩⟩⟩⟩⟩⟩⟩⟩⟩⟩⟩⟩
theorem lw_p32 : lw_okq (⟨"ShortVectorsModel", "walk", "(IJ)V"⟩, 27) := ⟨⟨by decide +kernel, by decide +kernel⟩, List.mem_of_getElem? (i := 485) (by decide +kernel), List.mem_of_getElem? (i := 671) (by decide +kernel), List.mem_of_getElem? (i := 672) (by decide +kernel)⟩
theorem lw_p33 : lw_okq (⟨"ShortVectorsModel", "open", "(I)I"⟩, 27) := ⟨⟨by decide +kernel, by decide +kernel⟩, List.mem_of_getElem? (i := 485) (by decide +kernel), List.mem_of_getElem? (i := 675) (by decide +kernel), List.mem_of_getElem? (i := 676) (by decide +kernel)⟩
theorem lw_p34 : lw_okq (⟨"ShortVectorsModel", "visit", "(IJ)V"⟩, 27) := ⟨⟨by decide +kernel, by decide +kernel⟩, List.mem_of_getElem? (i := 485) (by decide +kernel), List.mem_of_getElem? (i := 679) (by decide +kernel), List.mem_of_getElem? (i := 680) (by decide +kernel)⟩
theorem lw_p35 : lw_okq (⟨"ShortVectorsModel", "sortIn", "(IJ)V"⟩, 27) := ⟨⟨by decide +kernel, by decide +kernel⟩, List.mem_of_getElem? (i := 485) (by decide +kernel), List.mem_of_getElem? (i := 683) (by decide +kernel), List.mem_of_getElem? (i := 684) (by decide +kernel)⟩
theorem lw_p36 : lw_okq (⟨"ShortVectorsModel", "before", "(IJI)Z"⟩, 27) := ⟨⟨by decide +kernel, by decide +kernel⟩, List.mem_of_getElem? (i := 485) (by decide +kernel), List.mem_of_getElem? (i := 687) (by decide +kernel), List.mem_of_getElem? (i := 688) (by decide +kernel)⟩
theorem lw_p37 : lw_okq (⟨"ShortVectorsModel", "extend", "(I)V"⟩, 27) := ⟨⟨by decide +kernel, by decide +kernel⟩, List.mem_of_getElem? (i := 485) (by decide +kernel), List.mem_of_getElem? (i := 691) (by decide +kernel), List.mem_of_getElem? (i := 692) (by decide +kernel)⟩
theorem lw_p38 : lw_okq (⟨"ShortVectorsModel", "lead", "(I)I"⟩, 27) := ⟨⟨by decide +kernel, by decide +kernel⟩, List.mem_of_getElem? (i := 485) (by decide +kernel), List.mem_of_getElem? (i := 695) (by decide +kernel), List.mem_of_getElem? (i := 696) (by decide +kernel)⟩
theorem lw_p39 : lw_okq (⟨"ShortVectorsModel", "shrink", "()V"⟩, 27) := ⟨⟨by decide +kernel, by decide +kernel⟩, List.mem_of_getElem? (i := 485) (by decide +kernel), List.mem_of_getElem? (i := 699) (by decide +kernel), List.mem_of_getElem? (i := 700) (by decide +kernel)⟩
theorem lw_p40 : lw_okq (⟨"ShortVectorsModel", "compare", "(IJ)V"⟩, 27) := ⟨⟨by decide +kernel, by decide +kernel⟩, List.mem_of_getElem? (i := 485) (by decide +kernel), List.mem_of_getElem? (i := 703) (by decide +kernel), List.mem_of_getElem? (i := 704) (by decide +kernel)⟩
theorem lw_p41 : lw_okq (⟨"ShortVectorsModel", "finish", "(I)V"⟩, 27) := ⟨⟨by decide +kernel, by decide +kernel⟩, List.mem_of_getElem? (i := 485) (by decide +kernel), List.mem_of_getElem? (i := 707) (by decide +kernel), List.mem_of_getElem? (i := 708) (by decide +kernel)⟩
theorem lw_p42 : lw_okq (⟨"ShortVectorsModel", "along", "(IJJ)V"⟩, 27) := ⟨⟨by decide +kernel, by decide +kernel⟩, List.mem_of_getElem? (i := 485) (by decide +kernel), List.mem_of_getElem? (i := 712) (by decide +kernel), List.mem_of_getElem? (i := 713) (by decide +kernel)⟩
theorem lw_p43 : lw_okq (⟨"ShortVectorsModel", "take", "(I)V"⟩, 27) := ⟨⟨by decide +kernel, by decide +kernel⟩, List.mem_of_getElem? (i := 485) (by decide +kernel), List.mem_of_getElem? (i := 716) (by decide +kernel), List.mem_of_getElem? (i := 717) (by decide +kernel)⟩
theorem lw_p44 : lw_okq (⟨"ShortVectorsModel", "range", "(I)V"⟩, 27) := ⟨⟨by decide +kernel, by decide +kernel⟩, List.mem_of_getElem? (i := 485) (by decide +kernel), List.mem_of_getElem? (i := 720) (by decide +kernel), List.mem_of_getElem? (i := 721) (by decide +kernel)⟩
theorem lw_p45 : lw_okq (⟨"ShortVectorsModel", "list", "()V"⟩, 27) := ⟨⟨by decide +kernel, by decide +kernel⟩, List.mem_of_getElem? (i := 485) (by decide +kernel), List.mem_of_getElem? (i := 732) (by decide +kernel), List.mem_of_getElem? (i := 733) (by decide +kernel)⟩
theorem lw_p46 : lw_okq (⟨"ShortVectorsModel", "measure", "()V"⟩, 27) := ⟨⟨by decide +kernel, by decide +kernel⟩, List.mem_of_getElem? (i := 485) (by decide +kernel), List.mem_of_getElem? (i := 740) (by decide +kernel), List.mem_of_getElem? (i := 741) (by decide +kernel)⟩
theorem lw_p47 : lw_okq (⟨"ShortVectorsModel", "reaches", "(II)Z"⟩, 27) := ⟨⟨by decide +kernel, by decide +kernel⟩, List.mem_of_getElem? (i := 485) (by decide +kernel), List.mem_of_getElem? (i := 744) (by decide +kernel), List.mem_of_getElem? (i := 745) (by decide +kernel)⟩
def lw_privs_3 : List (MethodName × Nat) := [(⟨"ShortVectorsModel", "walk", "(IJ)V"⟩, 27), (⟨"ShortVectorsModel", "open", "(I)I"⟩, 27), (⟨"ShortVectorsModel", "visit", "(IJ)V"⟩, 27), (⟨"ShortVectorsModel", "sortIn", "(IJ)V"⟩, 27), (⟨"ShortVectorsModel", "before", "(IJI)Z"⟩, 27), (⟨"ShortVectorsModel", "extend", "(I)V"⟩, 27), (⟨"ShortVectorsModel", "lead", "(I)I"⟩, 27), (⟨"ShortVectorsModel", "shrink", "()V"⟩, 27), (⟨"ShortVectorsModel", "compare", "(IJ)V"⟩, 27), (⟨"ShortVectorsModel", "finish", "(I)V"⟩, 27), (⟨"ShortVectorsModel", "along", "(IJJ)V"⟩, 27), (⟨"ShortVectorsModel", "take", "(I)V"⟩, 27), (⟨"ShortVectorsModel", "range", "(I)V"⟩, 27), (⟨"ShortVectorsModel", "list", "()V"⟩, 27), (⟨"ShortVectorsModel", "measure", "()V"⟩, 27), (⟨"ShortVectorsModel", "reaches", "(II)Z"⟩, 27)]
theorem lw_r3 : ∀ q ∈ lw_privs_3, lw_okq q := List.forall_mem_cons.mpr ⟨lw_p32, List.forall_mem_cons.mpr ⟨lw_p33, List.forall_mem_cons.mpr ⟨lw_p34, List.forall_mem_cons.mpr ⟨lw_p35, List.forall_mem_cons.mpr ⟨lw_p36, List.forall_mem_cons.mpr ⟨lw_p37, List.forall_mem_cons.mpr ⟨lw_p38, List.forall_mem_cons.mpr ⟨lw_p39, List.forall_mem_cons.mpr ⟨lw_p40, List.forall_mem_cons.mpr ⟨lw_p41, List.forall_mem_cons.mpr ⟨lw_p42, List.forall_mem_cons.mpr ⟨lw_p43, List.forall_mem_cons.mpr ⟨lw_p44, List.forall_mem_cons.mpr ⟨lw_p45, List.forall_mem_cons.mpr ⟨lw_p46, List.forall_mem_cons.mpr ⟨lw_p47, fun _ h => absurd h List.not_mem_nil⟩⟩⟩⟩⟩⟩⟩⟩⟩⟩⟩⟩⟩⟩⟩⟩
theorem lw_p48 : lw_okq (⟨"ShortVectorsModel", "seek", "(IIII)V"⟩, 27) := ⟨⟨by decide +kernel, by decide +kernel⟩, List.mem_of_getElem? (i := 485) (by decide +kernel), List.mem_of_getElem? (i := 752) (by decide +kernel), List.mem_of_getElem? (i := 753) (by decide +kernel)⟩
def lw_privs_4 : List (MethodName × Nat) := [(⟨"ShortVectorsModel", "seek", "(IIII)V"⟩, 27)]
theorem lw_r4 : ∀ q ∈ lw_privs_4, lw_okq q := List.forall_mem_cons.mpr ⟨lw_p48, fun _ h => absurd h List.not_mem_nil⟩
def lw_privs : List (MethodName × Nat) := lw_privs_1 ++ (lw_privs_2 ++ (lw_privs_3 ++ (lw_privs_4)))
def lw_tbl : List Cond := k2_sels lw_privs ++ tables_1
theorem lw_privs_ok : ∀ q ∈ lw_privs, lw_okq q := by
  show ∀ q ∈ lw_privs_1 ++ (lw_privs_2 ++ (lw_privs_3 ++ (lw_privs_4))), lw_okq q
  exact List.forall_mem_append.mpr ⟨lw_r1, List.forall_mem_append.mpr ⟨lw_r2, List.forall_mem_append.mpr ⟨lw_r3, lw_r4⟩⟩⟩
/-- the words of the tables that a call may hand on -/
def utbl : List Cond := lw_tbl.filter goodWord
theorem u_mem {w : Cond} (h : w ∈ lw_tbl) (hg : goodWord w = true) : w ∈ utbl := List.mem_filter.mpr ⟨h, hg⟩
def uw (y : MethodName) (b : ByteArray) (n : Nat) (r : Option FieldType) : List Cond := .code y b n r :: utbl
theorem uw_in {y : MethodName} {b : ByteArray} {n : Nat} {r : Option FieldType} (h : Cond.code y b n r ∈ utbl) : GoodIn utbl (uw y b n r) := by
  intro w hw
  have h1 : w ∈ utbl := by
    rcases List.mem_cons.mp hw with e | e
    · rw [e]; exact h
    · exact e
  exact ⟨h1, good_of_word (List.mem_filter.mp h1).2⟩
def RM : String := "ShortVectorsModel"
def TM : u_T := fun k => match k with
  | 0 => ("ShortVectorsModel", "many", "I", false)
  | 1 => ("ShortVectorsModel", "generator", "[I", true)
  | 2 => ("ShortVectorsModel", "known", "Z", false)
  | 3 => ("ShortVectorsModel", "without", "I", false)
  | 4 => ("ShortVectorsModel", "rows", "I", false)
  | 5 => ("ShortVectorsModel", "row", "[J", true)
  | 6 => ("ShortVectorsModel", "pivot", "[I", true)
  | 7 => ("ShortVectorsModel", "fresh", "[J", true)
  | 8 => ("ShortVectorsModel", "multiple", "[J", true)
  | 9 => ("ShortVectorsModel", "last", "[J", true)
  | 10 => ("ShortVectorsModel", "made", "[J", true)
  | 11 => ("ShortVectorsModel", "settled", "[J", true)
  | 12 => ("ShortVectorsModel", "point", "[J", true)
  | 13 => ("ShortVectorsModel", "limit", "J", false)
  | 14 => ("ShortVectorsModel", "mode", "I", false)
  | 15 => ("ShortVectorsModel", "counted", "I", false)
  | 16 => ("ShortVectorsModel", "listed", "Z", false)
  | 17 => ("ShortVectorsModel", "held", "I", false)
  | 18 => ("ShortVectorsModel", "first", "[J", true)
  | 19 => ("ShortVectorsModel", "squares", "[J", true)
  | 20 => ("ShortVectorsModel", "wanted", "I", false)
  | 21 => ("ShortVectorsModel", "spanned", "I", false)
  | 22 => ("ShortVectorsModel", "span", "[J", true)
  | 23 => ("ShortVectorsModel", "minima", "[I", true)
  | 24 => ("ShortVectorsModel", "measured", "Z", false)
  | 25 => ("ShortVectorsModel", "found", "[J", true)
  | _ => ("ShortVectorsModel", "any", "Z", false)
def tyM : Nat → FieldType := fun k => match k with
  | 0 => .int
  | 1 => .array .int
  | 2 => .boolean
  | 3 => .int
  | 4 => .int
  | 5 => .array .long
  | 6 => .array .int
  | 7 => .array .long
  | 8 => .array .long
  | 9 => .array .long
  | 10 => .array .long
  | 11 => .array .long
  | 12 => .array .long
  | 13 => .long
  | 14 => .int
  | 15 => .int
  | 16 => .boolean
  | 17 => .int
  | 18 => .array .long
  | 19 => .array .long
  | 20 => .int
  | 21 => .int
  | 22 => .array .long
  | 23 => .array .int
  | 24 => .boolean
  | 25 => .array .long
  | _ => .boolean
theorem nmM : ∀ a, a < 27 → ∀ b, b < 27 → a ≠ b → (TM a).2.1 ≠ (TM b).2.1 := by decide +kernel
theorem tyM_ok : ∀ k, k < 27 → parseFieldDescriptor (TM k).2.2.1 = some (tyM k) := by decide +kernel
theorem wsM_ok : ∀ w ∈ u_ws RM TM 27, w ∈ utbl := fun w h => u_mem ((show ∀ w ∈ u_ws RM TM 27, w ∈ lw_tbl by decide +kernel) w h) ((show ∀ w ∈ u_ws RM TM 27, goodWord w = true by decide +kernel) w h)
def RV : String := "ShortVectors"
def TV : u_T := fun k => match k with
  | 0 => ("ShortVectors", "added", "[[J", true)
  | 1 => ("ShortVectors", "asked", "[J", true)
  | 2 => ("ShortVectors", "echelon", "LShortVectors$Echelon;", true)
  | 3 => ("ShortVectors", "others", "LShortVectors$Echelon;", true)
  | 4 => ("ShortVectors", "basis", "LShortVectors$Basis;", true)
  | 5 => ("ShortVectors", "tally", "LShortVectors$Tally;", true)
  | 6 => ("ShortVectors", "first", "LShortVectors$FirstVectors;", true)
  | 7 => ("ShortVectors", "closest", "LShortVectors$Closest;", true)
  | 8 => ("ShortVectors", "held", "I", false)
  | 9 => ("ShortVectors", "reduced", "Z", false)
  | 10 => ("ShortVectors", "tallied", "Z", false)
  | _ => ("ShortVectors", "listed", "Z", false)
def tyV : Nat → FieldType := fun k => match k with
  | 0 => .array (.array .long)
  | 1 => .array .long
  | 2 => .object "ShortVectors$Echelon"
  | 3 => .object "ShortVectors$Echelon"
  | 4 => .object "ShortVectors$Basis"
  | 5 => .object "ShortVectors$Tally"
  | 6 => .object "ShortVectors$FirstVectors"
  | 7 => .object "ShortVectors$Closest"
  | 8 => .int
  | 9 => .boolean
  | 10 => .boolean
  | _ => .boolean
theorem nmV : ∀ a, a < 12 → ∀ b, b < 12 → a ≠ b → (TV a).2.1 ≠ (TV b).2.1 := by decide +kernel
theorem tyV_ok : ∀ k, k < 12 → parseFieldDescriptor (TV k).2.2.1 = some (tyV k) := by decide +kernel
theorem wsV_ok : ∀ w ∈ u_ws RV TV 12, w ∈ utbl := fun w h => u_mem ((show ∀ w ∈ u_ws RV TV 12, w ∈ lw_tbl by decide +kernel) w h) ((show ∀ w ∈ u_ws RV TV 12, goodWord w = true by decide +kernel) w h)
def RE : String := "ShortVectors$Echelon"
def TE : u_T := fun k => match k with
  | 0 => ("ShortVectors$Echelon", "rows", "[[J", true)
  | _ => ("ShortVectors$Echelon", "rest", "[J", true)
def tyE : Nat → FieldType := fun k => match k with
  | 0 => .array (.array .long)
  | _ => .array .long
theorem nmE : ∀ a, a < 2 → ∀ b, b < 2 → a ≠ b → (TE a).2.1 ≠ (TE b).2.1 := by decide +kernel
theorem tyE_ok : ∀ k, k < 2 → parseFieldDescriptor (TE k).2.2.1 = some (tyE k) := by decide +kernel
theorem wsE_ok : ∀ w ∈ u_ws RE TE 2, w ∈ utbl := fun w h => u_mem ((show ∀ w ∈ u_ws RE TE 2, w ∈ lw_tbl by decide +kernel) w h) ((show ∀ w ∈ u_ws RE TE 2, goodWord w = true by decide +kernel) w h)
def RB : String := "ShortVectors$Basis"
def TB : u_T := fun k => match k with
  | 0 => ("ShortVectors$Basis", "rows", "[[J", true)
  | 1 => ("ShortVectors$Basis", "directions", "[[J", true)
  | 2 => ("ShortVectors$Basis", "directionSquares", "[J", true)
  | 3 => ("ShortVectors$Basis", "strides", "[J", true)
  | 4 => ("ShortVectors$Basis", "sums", "[[J", true)
  | 5 => ("ShortVectors$Basis", "minors", "[[J", true)
  | 6 => ("ShortVectors$Basis", "trial", "[J", true)
  | _ => ("ShortVectors$Basis", "size", "I", false)
def tyB : Nat → FieldType := fun k => match k with
  | 0 => .array (.array .long)
  | 1 => .array (.array .long)
  | 2 => .array .long
  | 3 => .array .long
  | 4 => .array (.array .long)
  | 5 => .array (.array .long)
  | 6 => .array .long
  | _ => .int
theorem nmB : ∀ a, a < 8 → ∀ b, b < 8 → a ≠ b → (TB a).2.1 ≠ (TB b).2.1 := by decide +kernel
theorem tyB_ok : ∀ k, k < 8 → parseFieldDescriptor (TB k).2.2.1 = some (tyB k) := by decide +kernel
theorem wsB_ok : ∀ w ∈ u_ws RB TB 8, w ∈ utbl := fun w h => u_mem ((show ∀ w ∈ u_ws RB TB 8, w ∈ lw_tbl by decide +kernel) w h) ((show ∀ w ∈ u_ws RB TB 8, goodWord w = true by decide +kernel) w h)
def RT : String := "ShortVectors$Tally"
def TT : u_T := fun k => match k with
  | 0 => ("ShortVectors$Collector", "goal", "[J", true)
  | 1 => ("ShortVectors$Collector", "budget", "J", false)
  | _ => ("ShortVectors$Tally", "sums", "[I", true)
def tyT : Nat → FieldType := fun k => match k with
  | 0 => .array .long
  | 1 => .long
  | _ => .array .int
theorem nmT : ∀ a, a < 3 → ∀ b, b < 3 → a ≠ b → (TT a).2.1 ≠ (TT b).2.1 := by decide +kernel
theorem tyT_ok : ∀ k, k < 3 → parseFieldDescriptor (TT k).2.2.1 = some (tyT k) := by decide +kernel
theorem wsT_ok : ∀ w ∈ u_ws RT TT 3, w ∈ utbl := fun w h => u_mem ((show ∀ w ∈ u_ws RT TT 3, w ∈ lw_tbl by decide +kernel) w h) ((show ∀ w ∈ u_ws RT TT 3, goodWord w = true by decide +kernel) w h)
def RF : String := "ShortVectors$FirstVectors"
def TF : u_T := fun k => match k with
  | 0 => ("ShortVectors$Collector", "goal", "[J", true)
  | 1 => ("ShortVectors$Collector", "budget", "J", false)
  | 2 => ("ShortVectors$FirstVectors", "vectors", "[[J", true)
  | 3 => ("ShortVectors$FirstVectors", "squares", "[J", true)
  | _ => ("ShortVectors$FirstVectors", "listLength", "I", false)
def tyF : Nat → FieldType := fun k => match k with
  | 0 => .array .long
  | 1 => .long
  | 2 => .array (.array .long)
  | 3 => .array .long
  | _ => .int
theorem nmF : ∀ a, a < 5 → ∀ b, b < 5 → a ≠ b → (TF a).2.1 ≠ (TF b).2.1 := by decide +kernel
theorem tyF_ok : ∀ k, k < 5 → parseFieldDescriptor (TF k).2.2.1 = some (tyF k) := by decide +kernel
theorem wsF_ok : ∀ w ∈ u_ws RF TF 5, w ∈ utbl := fun w h => u_mem ((show ∀ w ∈ u_ws RF TF 5, w ∈ lw_tbl by decide +kernel) w h) ((show ∀ w ∈ u_ws RF TF 5, goodWord w = true by decide +kernel) w h)
def RC : String := "ShortVectors$Closest"
def TC : u_T := fun k => match k with
  | 0 => ("ShortVectors$Collector", "goal", "[J", true)
  | 1 => ("ShortVectors$Collector", "budget", "J", false)
  | 2 => ("ShortVectors$Closest", "best", "[J", true)
  | _ => ("ShortVectors$Closest", "bestSquare", "J", false)
def tyC : Nat → FieldType := fun k => match k with
  | 0 => .array .long
  | 1 => .long
  | 2 => .array .long
  | _ => .long
theorem nmC : ∀ a, a < 4 → ∀ b, b < 4 → a ≠ b → (TC a).2.1 ≠ (TC b).2.1 := by decide +kernel
theorem tyC_ok : ∀ k, k < 4 → parseFieldDescriptor (TC k).2.2.1 = some (tyC k) := by decide +kernel
theorem wsC_ok : ∀ w ∈ u_ws RC TC 4, w ∈ utbl := fun w h => u_mem ((show ∀ w ∈ u_ws RC TC 4, w ∈ lw_tbl by decide +kernel) w h) ((show ∀ w ∈ u_ws RC TC 4, goodWord w = true by decide +kernel) w h)
abbrev classes : List vw_C := [(RM, TM, 27), (RV, TV, 12), (RE, TE, 2), (RB, TB, 8), (RT, TT, 3), (RF, TF, 5), (RC, TC, 4)]
/-! the world: NW cells at fixed addresses, their contents a function of the place -/
def NW : Nat := 114
abbrev ctx : Type := (Nat → Nat) × ClassId × ClassId × ClassId
abbrev tysOf (κ : ctx) : List (ClassId × FieldType) := [(κ.2.1, .int), (κ.2.2.1, .long), (κ.2.2.2, .array .long)]
def wl (h : Nat → Nat) (L : Nat → va_E) : va_W := (List.range NW).map (fun k => (h k, L k))
theorem wl_get {h : Nat → Nat} {L : Nat → va_E} {k : Nat} (hk : k < NW) : (wl h L)[k]? = some (h k, L k) := by
  simp [wl, hk]
theorem wl_lt {h : Nat → Nat} {L : Nat → va_E} {k : Nat} {q : Nat × va_E} (hk : (wl h L)[k]? = some q) : k < NW ∧ q = (h k, L k) := by
  have h1 : k < (wl h L).length := (List.getElem?_eq_some_iff.mp hk).1
  have h2 : k < NW := by simpa [wl] using h1
  rw [wl_get h2] at hk
  exact ⟨h2, (Option.some.inj hk).symm⟩
theorem wl_set {h : Nat → Nat} {L : Nat → va_E} {k : Nat} {e : va_E} : (wl h L).set k (h k, e) = wl h (va_up L k e) := by
  apply List.ext_getElem?
  intro j
  by_cases hj : j < NW
  · rw [wl_get hj, List.getElem?_set]
    by_cases e1 : k = j
    · subst e1
      simp [wl, hj, va_up]
    · have : j ≠ k := fun q => e1 q.symm
      simp [e1, wl_get hj, va_up, this]
  · have h1 : (wl h (va_up L k e))[j]? = none := List.getElem?_eq_none (by simp [wl]; omega)
    have h2 : ((wl h L).set k (h k, e))[j]? = none := List.getElem?_eq_none (by simp [wl]; omega)
    rw [h1, h2]
theorem wl_D {h : Nat → Nat} {L : Nat → va_E} {A : Nat → Prop} (hi : ∀ i j, i < NW → j < NW → h i = h j → i = j) (hA : ∀ k, k < NW → A (h k)) : va_D A (wl h L) := by
  refine ⟨fun i j p q hp hq e => ?_, fun k q hk => ?_⟩
  · obtain ⟨a, rfl⟩ := wl_lt hp
    obtain ⟨b, rfl⟩ := wl_lt hq
    exact hi i j a b e
  · obtain ⟨a, rfl⟩ := wl_lt hk
    exact hA k a
theorem wl_A {h : Nat → Nat} {L : Nat → va_E} {sz : Nat} {k : Nat} (hk : k < NW) : va_A (wl h L) sz (h k) := Or.inl ⟨k, L k, wl_get hk⟩
theorem wl_Ain {h : Nat → Nat} {L : Nat → va_E} {sz : Nat} {A : Nat → Prop} (hA : ∀ k, k < NW → A (h k)) (hs : ∀ q, sz ≤ q → A q) : ∀ q, va_A (wl h L) sz q → A q := by
  intro q hq
  rcases hq with ⟨k, e, hk⟩ | hq
  · obtain ⟨a, b⟩ := wl_lt hk
    rw [(Prod.mk.inj b).1]
    exact hA k a
  · exact hs q hq
/-! the words of nest mates, carried beside the others -/
def isNest (w : Cond) : Bool := match w with | .methodLinkNest .. => true | .declares _ => true | _ => false
def NS (U : State) : Prop := ∀ w ∈ lw_tbl, isNest w = true → va_Nw w U
theorem NS.warm {s U : State} (hW : s.WarmedH U.vm) (h : NS s) : NS U := by
  intro w hw hn
  have h1 := h w hw hn
  cases w <;> first | exact va_Nw.warmM hW h1 | exact va_Nw.warmD hW h1 | (simp [isNest] at hn)
theorem NS.same {u U : State} (hv : u.vm = U.vm) (h : NS u) : NS U := by
  intro w hw hn
  have h1 := h w hw hn
  cases w <;> first | exact va_Nw.same rfl hv h1 | (simp [isNest] at hn)
/-! the judgement -/
abbrev Gm : Type := Program × Launch × Env × Room × State × MethodId × Array Value × List Frame × Method × Code × Nat × Nat × (State → Prop) × va_G × (Nat → Prop)
def J (g : Gm) (κ : ctx) (nL : Nat) (pc : Nat) (lv : List (Nat × Value)) (st : List Value) (L : Nat → va_E) : Prop :=
  match g with
  | (p, l, e, R, s, m, args, below, meth, c, cells, slots, Q, D, A) => ∀ (H : Heap) (locs : List Loc) (ls : Array Slot), va_P D classes (wl κ.1 L) H → va_S A s.heap H locs → lv_has ls nL lv → W p l e R s m args below meth c H locs cells slots Q (F0 m pc ls st)
def OK (g : Gm) (κ : ctx) (own : String) (cc : ByteArray) (nL : Nat) (ret : Option FieldType) (rm : Room) : Prop :=
  match g with
  | (p, _, _, R, s, m, args, _, meth, c, cells, slots, _, D, A) => p.tables.exec = Jvm.exec ∧ c.code = cc ∧ c.maxLocals = nL ∧ meth.sig.returnType = ret ∧ meth.locks = false ∧ s.vm.findClass own = some m.cls ∧ (∀ w ∈ utbl, w.before args s = true) ∧ va_K D classes (tysOf κ) s ∧ NS s ∧ (∀ i j, i < NW → j < NW → κ.1 i = κ.1 j → i = j) ∧ (∀ k, k < NW → A (κ.1 k)) ∧ (∀ q, s.heap.size ≤ q → A q) ∧ cells ≤ R.cells ∧ slots ≤ R.slots ∧ R = rm
def Qx (D : va_G) (κ : ctx) (A : Nat → Prop) (v : Option Value) (L' : Nat → va_E) : Array Value → State → Outcome → State → Prop := fun _ st oc t => (oc = .returned v ∧ va_P D classes (wl κ.1 L') t.heap) ∧ va_F A st t
/-- a return of v with the world L' is what the method's contract asks -/
def Fn (g : Gm) (κ : ctx) (v : Option Value) (L' : Nat → va_E) : Prop :=
  match g with
  | (_, _, _, _, s, _, args, below, _, _, cells, slots, Q, D, A) => Q = MQ below (Qx D κ A v L') args s cells slots A
def Pre (D : va_G) (κ : ctx) (L : Nat → va_E) (sz : Nat) (U : State) : Prop := U.heap.size = sz ∧ va_P D classes (wl κ.1 L) U.heap ∧ va_K D classes (tysOf κ) U ∧ NS U ∧ (∀ i j, i < NW → j < NW → κ.1 i = κ.1 j → i = j)
/-- THE CONTRACT: from the world L with the arguments av the method returns v with the world L' -/
def Mt (y : MethodName) (b : ByteArray) (nL : Nat) (ret : Option FieldType) (rm : Room) (κ : ctx) (av : List Value) (L : Nat → va_E) (v : Option Value) (L' : Nat → va_E) : Prop :=
  ∀ (l : Launch) (D : va_G) (sz : Nat), Met l y (uw y b nL ret) rm (va_Pc av (Pre D κ L sz)) (Qx D κ (va_A (wl κ.1 L) sz) v L') 0 0 (va_A (wl κ.1 L) sz)
theorem Mt.of {y : MethodName} {b : ByteArray} {nL : Nat} {ret : Option FieldType} {rm : Room} {κ : ctx} {av : List Value} {L L' : Nat → va_E} {v : Option Value} (hy : plainName y.cls = true) (hn : (lg_sl av).length ≤ nL)
    (body : ∀ g : Gm, OK g κ y.cls b nL ret rm → Fn g κ v L' → J g κ nL 0 (lv_args 0 av) [] L) : Mt y b nL ret rm κ av L v L' := by
  intro l D sz
  refine Met.ofW (cc := b) (maxL := nL) (ret := ret) hy rfl ?_
  intro p e s m args below meth c s₁ B hml hv
  obtain ⟨rfl, hsz, hP, hK, hN, hi⟩ := hv
  have hts := atoms_spec (ws := uw y b nL ret) B.pre
  have hown : s.vm.findClass y.cls = some m.cls := findClass_of_methodNamed B.named
  subst hsz
  have hl := lv_entry av (n := nL) hn
  rw [lg_entry_eq]
  exact body (p, l, e, rm, s, m, av.toArray, below, meth, c, 0, 0, MQ below (Qx D κ (va_A (wl κ.1 L) s.heap.size) v L') av.toArray s 0 0 (va_A (wl κ.1 L) s.heap.size), D, va_A (wl κ.1 L) s.heap.size)
    ⟨B.exec, B.bytes, hml, B.returns, B.notSynchronized, hown, fun w hw => hts w (List.mem_cons_of_mem _ hw), hK, hN, hi, fun k hk => wl_A hk, fun q hq => Or.inr hq, Nat.zero_le _, Nat.zero_le _, rfl⟩ rfl _ _ _ hP va_S.rf hl
