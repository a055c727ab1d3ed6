section
-- ===== PART A: goes FIRST, ahead of the names: the tables' words, and 'selects' of the private methods out of them =====
/-- a private method of a class that the tables say can be made, by its rows of tables_1 -/
def lw_okq (q : MethodName × Nat) : Prop := (q.1.cls ≠ "java/lang/invoke/MethodHandle" ∧ q.1.cls ≠ "java/lang/invoke/VarHandle") ∧ Cond.instantiable q.1.cls q.2 ∈ tables_1 ∧ Cond.privateMethod q.1 ∈ tables_1 ∧ Cond.instanceMethod q.1 ∈ tables_1
theorem lw_p0 : lw_okq (⟨"ShortVectors", "ask", "(IIIII)Z"⟩, 12) := ⟨⟨by decide +kernel, by decide +kernel⟩, List.mem_of_getElem? (i := 13) (by decide +kernel), List.mem_of_getElem? (i := 165) (by decide +kernel), List.mem_of_getElem? (i := 166) (by decide +kernel)⟩
theorem lw_p1 : lw_okq (⟨"ShortVectors$Echelon", "merge", "([JI)V"⟩, 2) := ⟨⟨by decide +kernel, by decide +kernel⟩, List.mem_of_getElem? (i := 23) (by decide +kernel), List.mem_of_getElem? (i := 180) (by decide +kernel), List.mem_of_getElem? (i := 181) (by decide +kernel)⟩
theorem lw_p2 : lw_okq (⟨"ShortVectors$Echelon", "shorten", "(I)V"⟩, 2) := ⟨⟨by decide +kernel, by decide +kernel⟩, List.mem_of_getElem? (i := 23) (by decide +kernel), List.mem_of_getElem? (i := 189) (by decide +kernel), List.mem_of_getElem? (i := 190) (by decide +kernel)⟩
theorem lw_p3 : lw_okq (⟨"ShortVectors", "forget", "()V"⟩, 12) := ⟨⟨by decide +kernel, by decide +kernel⟩, List.mem_of_getElem? (i := 13) (by decide +kernel), List.mem_of_getElem? (i := 200) (by decide +kernel), List.mem_of_getElem? (i := 201) (by decide +kernel)⟩
theorem lw_p4 : lw_okq (⟨"ShortVectors", "gather", "(LShortVectors$Echelon;I)V"⟩, 12) := ⟨⟨by decide +kernel, by decide +kernel⟩, List.mem_of_getElem? (i := 13) (by decide +kernel), List.mem_of_getElem? (i := 208) (by decide +kernel), List.mem_of_getElem? (i := 209) (by decide +kernel)⟩
theorem lw_p5 : lw_okq (⟨"ShortVectors", "readyBasis", "()LShortVectors$Basis;"⟩, 12) := ⟨⟨by decide +kernel, by decide +kernel⟩, List.mem_of_getElem? (i := 13) (by decide +kernel), List.mem_of_getElem? (i := 235) (by decide +kernel), List.mem_of_getElem? (i := 236) (by decide +kernel)⟩
theorem lw_p6 : lw_okq (⟨"ShortVectors$Basis", "reduce", "()V"⟩, 8) := ⟨⟨by decide +kernel, by decide +kernel⟩, List.mem_of_getElem? (i := 38) (by decide +kernel), List.mem_of_getElem? (i := 249) (by decide +kernel), List.mem_of_getElem? (i := 250) (by decide +kernel)⟩
theorem lw_p7 : lw_okq (⟨"ShortVectors$Basis", "shortenByPairs", "()Z"⟩, 8) := ⟨⟨by decide +kernel, by decide +kernel⟩, List.mem_of_getElem? (i := 38) (by decide +kernel), List.mem_of_getElem? (i := 254) (by decide +kernel), List.mem_of_getElem? (i := 255) (by decide +kernel)⟩
theorem lw_p8 : lw_okq (⟨"ShortVectors$Basis", "shortenBy", "(II)Z"⟩, 8) := ⟨⟨by decide +kernel, by decide +kernel⟩, List.mem_of_getElem? (i := 38) (by decide +kernel), List.mem_of_getElem? (i := 258) (by decide +kernel), List.mem_of_getElem? (i := 259) (by decide +kernel)⟩
theorem lw_p9 : lw_okq (⟨"ShortVectors$Basis", "shortenBySums", "()Z"⟩, 8) := ⟨⟨by decide +kernel, by decide +kernel⟩, List.mem_of_getElem? (i := 38) (by decide +kernel), List.mem_of_getElem? (i := 275) (by decide +kernel), List.mem_of_getElem? (i := 276) (by decide +kernel)⟩
theorem lw_p10 : lw_okq (⟨"ShortVectors$Basis", "shortenByChoice", "(II)Z"⟩, 8) := ⟨⟨by decide +kernel, by decide +kernel⟩, List.mem_of_getElem? (i := 38) (by decide +kernel), List.mem_of_getElem? (i := 279) (by decide +kernel), List.mem_of_getElem? (i := 280) (by decide +kernel)⟩
theorem lw_p11 : lw_okq (⟨"ShortVectors$Basis", "sort", "()V"⟩, 8) := ⟨⟨by decide +kernel, by decide +kernel⟩, List.mem_of_getElem? (i := 38) (by decide +kernel), List.mem_of_getElem? (i := 283) (by decide +kernel), List.mem_of_getElem? (i := 284) (by decide +kernel)⟩
theorem lw_p12 : lw_okq (⟨"ShortVectors$Basis", "direct", "(I)V"⟩, 8) := ⟨⟨by decide +kernel, by decide +kernel⟩, List.mem_of_getElem? (i := 38) (by decide +kernel), List.mem_of_getElem? (i := 291) (by decide +kernel), List.mem_of_getElem? (i := 292) (by decide +kernel)⟩
theorem lw_p13 : lw_okq (⟨"ShortVectors$Basis", "eliminate", "(IJ)V"⟩, 8) := ⟨⟨by decide +kernel, by decide +kernel⟩, List.mem_of_getElem? (i := 38) (by decide +kernel), List.mem_of_getElem? (i := 310) (by decide +kernel), List.mem_of_getElem? (i := 311) (by decide +kernel)⟩
theorem lw_p14 : lw_okq (⟨"ShortVectors$Basis", "squareOutside", "([J)J"⟩, 8) := ⟨⟨by decide +kernel, by decide +kernel⟩, List.mem_of_getElem? (i := 38) (by decide +kernel), List.mem_of_getElem? (i := 373) (by decide +kernel), List.mem_of_getElem? (i := 374) (by decide +kernel)⟩
theorem lw_p15 : lw_okq (⟨"ShortVectors$Basis", "descend", "(IJLShortVectors$Collector;)V"⟩, 8) := ⟨⟨by decide +kernel, by decide +kernel⟩, List.mem_of_getElem? (i := 38) (by decide +kernel), List.mem_of_getElem? (i := 378) (by decide +kernel), List.mem_of_getElem? (i := 379) (by decide +kernel)⟩
def lw_privs_1 : List (MethodName × Nat) := [(⟨"ShortVectors", "ask", "(IIIII)Z"⟩, 12), (⟨"ShortVectors$Echelon", "merge", "([JI)V"⟩, 2), (⟨"ShortVectors$Echelon", "shorten", "(I)V"⟩, 2), (⟨"ShortVectors", "forget", "()V"⟩, 12), (⟨"ShortVectors", "gather", "(LShortVectors$Echelon;I)V"⟩, 12), (⟨"ShortVectors", "readyBasis", "()LShortVectors$Basis;"⟩, 12), (⟨"ShortVectors$Basis", "reduce", "()V"⟩, 8), (⟨"ShortVectors$Basis", "shortenByPairs", "()Z"⟩, 8), (⟨"ShortVectors$Basis", "shortenBy", "(II)Z"⟩, 8), (⟨"ShortVectors$Basis", "shortenBySums", "()Z"⟩, 8), (⟨"ShortVectors$Basis", "shortenByChoice", "(II)Z"⟩, 8), (⟨"ShortVectors$Basis", "sort", "()V"⟩, 8), (⟨"ShortVectors$Basis", "direct", "(I)V"⟩, 8), (⟨"ShortVectors$Basis", "eliminate", "(IJ)V"⟩, 8), (⟨"ShortVectors$Basis", "squareOutside", "([J)J"⟩, 8), (⟨"ShortVectors$Basis", "descend", "(IJLShortVectors$Collector;)V"⟩, 8)]
theorem lw_r1 : ∀ q ∈ lw_privs_1, lw_okq q := List.forall_mem_cons.mpr ⟨lw_p0, List.forall_mem_cons.mpr ⟨lw_p1, List.forall_mem_cons.mpr ⟨lw_p2, List.forall_mem_cons.mpr ⟨lw_p3, List.forall_mem_cons.mpr ⟨lw_p4, List.forall_mem_cons.mpr ⟨lw_p5, List.forall_mem_cons.mpr ⟨lw_p6, List.forall_mem_cons.mpr ⟨lw_p7, List.forall_mem_cons.mpr ⟨lw_p8, List.forall_mem_cons.mpr ⟨lw_p9, List.forall_mem_cons.mpr ⟨lw_p10, List.forall_mem_cons.mpr ⟨lw_p11, List.forall_mem_cons.mpr ⟨lw_p12, List.forall_mem_cons.mpr ⟨lw_p13, List.forall_mem_cons.mpr ⟨lw_p14, List.forall_mem_cons.mpr ⟨lw_p15, fun _ h => absurd h List.not_mem_nil⟩⟩⟩⟩⟩⟩⟩⟩⟩⟩⟩⟩⟩⟩⟩⟩
theorem lw_p16 : lw_okq (⟨"ShortVectors$FirstVectors", "precedes", "([JJI)Z"⟩, 5) := ⟨⟨by decide +kernel, by decide +kernel⟩, List.mem_of_getElem? (i := 90) (by decide +kernel), List.mem_of_getElem? (i := 404) (by decide +kernel), List.mem_of_getElem? (i := 405) (by decide +kernel)⟩
theorem lw_p17 : lw_okq (⟨"ShortVectors$FirstVectors", "insert", "([JJI)V"⟩, 5) := ⟨⟨by decide +kernel, by decide +kernel⟩, List.mem_of_getElem? (i := 90) (by decide +kernel), List.mem_of_getElem? (i := 409) (by decide +kernel), List.mem_of_getElem? (i := 410) (by decide +kernel)⟩
theorem lw_p18 : lw_okq (⟨"ShortVectors$Basis", "walk", "(IJIJLShortVectors$Collector;)V"⟩, 8) := ⟨⟨by decide +kernel, by decide +kernel⟩, List.mem_of_getElem? (i := 38) (by decide +kernel), List.mem_of_getElem? (i := 426) (by decide +kernel), List.mem_of_getElem? (i := 427) (by decide +kernel)⟩
theorem lw_p19 : lw_okq (⟨"ShortVectorsModel", "changed", "()V"⟩, 27) := ⟨⟨by decide +kernel, by decide +kernel⟩, List.mem_of_getElem? (i := 485) (by decide +kernel), List.mem_of_getElem? (i := 580) (by decide +kernel), List.mem_of_getElem? (i := 581) (by decide +kernel)⟩
theorem lw_p20 : lw_okq (⟨"ShortVectorsModel", "look", "(I)V"⟩, 27) := ⟨⟨by decide +kernel, by decide +kernel⟩, List.mem_of_getElem? (i := 485) (by decide +kernel), List.mem_of_getElem? (i := 596) (by decide +kernel), List.mem_of_getElem? (i := 597) (by decide +kernel)⟩
theorem lw_p21 : lw_okq (⟨"ShortVectorsModel", "enter", "()V"⟩, 27) := ⟨⟨by decide +kernel, by decide +kernel⟩, List.mem_of_getElem? (i := 485) (by decide +kernel), List.mem_of_getElem? (i := 600) (by decide +kernel), List.mem_of_getElem? (i := 601) (by decide +kernel)⟩
theorem lw_p22 : lw_okq (⟨"ShortVectorsModel", "rowAt", "(I)I"⟩, 27) := ⟨⟨by decide +kernel, by decide +kernel⟩, List.mem_of_getElem? (i := 485) (by decide +kernel), List.mem_of_getElem? (i := 604) (by decide +kernel), List.mem_of_getElem? (i := 605) (by decide +kernel)⟩
theorem lw_p23 : lw_okq (⟨"ShortVectorsModel", "tidy", "(I)V"⟩, 27) := ⟨⟨by decide +kernel, by decide +kernel⟩, List.mem_of_getElem? (i := 485) (by decide +kernel), List.mem_of_getElem? (i := 608) (by decide +kernel), List.mem_of_getElem? (i := 609) (by decide +kernel)⟩
theorem lw_p24 : lw_okq (⟨"ShortVectorsModel", "insert", "(I)V"⟩, 27) := ⟨⟨by decide +kernel, by decide +kernel⟩, List.mem_of_getElem? (i := 485) (by decide +kernel), List.mem_of_getElem? (i := 615) (by decide +kernel), List.mem_of_getElem? (i := 616) (by decide +kernel)⟩
theorem lw_p25 : lw_okq (⟨"ShortVectorsModel", "divide", "(I)V"⟩, 27) := ⟨⟨by decide +kernel, by decide +kernel⟩, List.mem_of_getElem? (i := 485) (by decide +kernel), List.mem_of_getElem? (i := 619) (by decide +kernel), List.mem_of_getElem? (i := 620) (by decide +kernel)⟩
theorem lw_p26 : lw_okq (⟨"ShortVectorsModel", "swap", "(I)V"⟩, 27) := ⟨⟨by decide +kernel, by decide +kernel⟩, List.mem_of_getElem? (i := 485) (by decide +kernel), List.mem_of_getElem? (i := 623) (by decide +kernel), List.mem_of_getElem? (i := 624) (by decide +kernel)⟩
theorem lw_p27 : lw_okq (⟨"ShortVectorsModel", "two", "(IIII)J"⟩, 27) := ⟨⟨by decide +kernel, by decide +kernel⟩, List.mem_of_getElem? (i := 485) (by decide +kernel), List.mem_of_getElem? (i := 631) (by decide +kernel), List.mem_of_getElem? (i := 632) (by decide +kernel)⟩
theorem lw_p28 : lw_okq (⟨"ShortVectorsModel", "three", "(III)J"⟩, 27) := ⟨⟨by decide +kernel, by decide +kernel⟩, List.mem_of_getElem? (i := 485) (by decide +kernel), List.mem_of_getElem? (i := 635) (by decide +kernel), List.mem_of_getElem? (i := 636) (by decide +kernel)⟩
theorem lw_p29 : lw_okq (⟨"ShortVectorsModel", "set", "(IIII)V"⟩, 27) := ⟨⟨by decide +kernel, by decide +kernel⟩, List.mem_of_getElem? (i := 485) (by decide +kernel), List.mem_of_getElem? (i := 643) (by decide +kernel), List.mem_of_getElem? (i := 644) (by decide +kernel)⟩
theorem lw_p30 : lw_okq (⟨"ShortVectorsModel", "times", "()J"⟩, 27) := ⟨⟨by decide +kernel, by decide +kernel⟩, List.mem_of_getElem? (i := 485) (by decide +kernel), List.mem_of_getElem? (i := 647) (by decide +kernel), List.mem_of_getElem? (i := 648) (by decide +kernel)⟩
theorem lw_p31 : lw_okq (⟨"ShortVectorsModel", "origin", "()V"⟩, 27) := ⟨⟨by decide +kernel, by decide +kernel⟩, List.mem_of_getElem? (i := 485) (by decide +kernel), List.mem_of_getElem? (i := 667) (by decide +kernel), List.mem_of_getElem? (i := 668) (by decide +kernel)⟩
def lw_privs_2 : List (MethodName × Nat) := [(⟨"ShortVectors$FirstVectors", "precedes", "([JJI)Z"⟩, 5), (⟨"ShortVectors$FirstVectors", "insert", "([JJI)V"⟩, 5), (⟨"ShortVectors$Basis", "walk", "(IJIJLShortVectors$Collector;)V"⟩, 8), (⟨"ShortVectorsModel", "changed", "()V"⟩, 27), (⟨"ShortVectorsModel", "look", "(I)V"⟩, 27), (⟨"ShortVectorsModel", "enter", "()V"⟩, 27), (⟨"ShortVectorsModel", "rowAt", "(I)I"⟩, 27), (⟨"ShortVectorsModel", "tidy", "(I)V"⟩, 27), (⟨"ShortVectorsModel", "insert", "(I)V"⟩, 27), (⟨"ShortVectorsModel", "divide", "(I)V"⟩, 27), (⟨"ShortVectorsModel", "swap", "(I)V"⟩, 27), (⟨"ShortVectorsModel", "two", "(IIII)J"⟩, 27), (⟨"ShortVectorsModel", "three", "(III)J"⟩, 27), (⟨"ShortVectorsModel", "set", "(IIII)V"⟩, 27), (⟨"ShortVectorsModel", "times", "()J"⟩, 27), (⟨"ShortVectorsModel", "origin", "()V"⟩, 27)]
theorem lw_r2 : ∀ q ∈ lw_privs_2, lw_okq q := List.forall_mem_cons.mpr ⟨lw_p16, List.forall_mem_cons.mpr ⟨lw_p17, List.forall_mem_cons.mpr ⟨lw_p18, List.forall_mem_cons.mpr ⟨lw_p19, List.forall_mem_cons.mpr ⟨lw_p20, List.forall_mem_cons.mpr ⟨lw_p21, List.forall_mem_cons.mpr ⟨lw_p22, List.forall_mem_cons.mpr ⟨lw_p23, List.forall_mem_cons.mpr ⟨lw_p24, List.forall_mem_cons.mpr ⟨lw_p25, List.forall_mem_cons.mpr ⟨lw_p26, List.forall_mem_cons.mpr ⟨lw_p27, List.forall_mem_cons.mpr ⟨lw_p28, List.forall_mem_cons.mpr ⟨lw_p29, List.forall_mem_cons.mpr ⟨lw_p30, List.forall_mem_cons.mpr ⟨lw_p31, fun _ h => absurd h List.not_mem_nil⟩⟩⟩⟩⟩⟩⟩⟩⟩⟩⟩⟩⟩⟩⟩⟩
theorem lw_p32 : lw_okq (⟨"ShortVectorsModel", "walk", "(IJ)V"⟩, 27) := ⟨⟨by decide +kernel, by decide +kernel⟩, List.mem_of_getElem? (i := 485) (by decide +kernel), List.mem_of_getElem? (i := 671) (by decide +kernel), List.mem_of_getElem? (i := 672) (by decide +kernel)⟩
theorem lw_p33 : lw_okq (⟨"ShortVectorsModel", "open", "(I)I"⟩, 27) := ⟨⟨by decide +kernel, by decide +kernel⟩, List.mem_of_getElem? (i := 485) (by decide +kernel), List.mem_of_getElem? (i := 675) (by decide +kernel), List.mem_of_getElem? (i := 676) (by decide +kernel)⟩
theorem lw_p34 : lw_okq (⟨"ShortVectorsModel", "visit", "(IJ)V"⟩, 27) := ⟨⟨by decide +kernel, by decide +kernel⟩, List.mem_of_getElem? (i := 485) (by decide +kernel), List.mem_of_getElem? (i := 679) (by decide +kernel), List.mem_of_getElem? (i := 680) (by decide +kernel)⟩
theorem lw_p35 : lw_okq (⟨"ShortVectorsModel", "sortIn", "(IJ)V"⟩, 27) := ⟨⟨by decide +kernel, by decide +kernel⟩, List.mem_of_getElem? (i := 485) (by decide +kernel), List.mem_of_getElem? (i := 683) (by decide +kernel), List.mem_of_getElem? (i := 684) (by decide +kernel)⟩
theorem lw_p36 : lw_okq (⟨"ShortVectorsModel", "before", "(IJI)Z"⟩, 27) := ⟨⟨by decide +kernel, by decide +kernel⟩, List.mem_of_getElem? (i := 485) (by decide +kernel), List.mem_of_getElem? (i := 687) (by decide +kernel), List.mem_of_getElem? (i := 688) (by decide +kernel)⟩
theorem lw_p37 : lw_okq (⟨"ShortVectorsModel", "extend", "(I)V"⟩, 27) := ⟨⟨by decide +kernel, by decide +kernel⟩, List.mem_of_getElem? (i := 485) (by decide +kernel), List.mem_of_getElem? (i := 691) (by decide +kernel), List.mem_of_getElem? (i := 692) (by decide +kernel)⟩
theorem lw_p38 : lw_okq (⟨"ShortVectorsModel", "lead", "(I)I"⟩, 27) := ⟨⟨by decide +kernel, by decide +kernel⟩, List.mem_of_getElem? (i := 485) (by decide +kernel), List.mem_of_getElem? (i := 695) (by decide +kernel), List.mem_of_getElem? (i := 696) (by decide +kernel)⟩
theorem lw_p39 : lw_okq (⟨"ShortVectorsModel", "shrink", "()V"⟩, 27) := ⟨⟨by decide +kernel, by decide +kernel⟩, List.mem_of_getElem? (i := 485) (by decide +kernel), List.mem_of_getElem? (i := 699) (by decide +kernel), List.mem_of_getElem? (i := 700) (by decide +kernel)⟩
theorem lw_p40 : lw_okq (⟨"ShortVectorsModel", "compare", "(IJ)V"⟩, 27) := ⟨⟨by decide +kernel, by decide +kernel⟩, List.mem_of_getElem? (i := 485) (by decide +kernel), List.mem_of_getElem? (i := 703) (by decide +kernel), List.mem_of_getElem? (i := 704) (by decide +kernel)⟩
theorem lw_p41 : lw_okq (⟨"ShortVectorsModel", "finish", "(I)V"⟩, 27) := ⟨⟨by decide +kernel, by decide +kernel⟩, List.mem_of_getElem? (i := 485) (by decide +kernel), List.mem_of_getElem? (i := 707) (by decide +kernel), List.mem_of_getElem? (i := 708) (by decide +kernel)⟩
theorem lw_p42 : lw_okq (⟨"ShortVectorsModel", "along", "(IJJ)V"⟩, 27) := ⟨⟨by decide +kernel, by decide +kernel⟩, List.mem_of_getElem? (i := 485) (by decide +kernel), List.mem_of_getElem? (i := 712) (by decide +kernel), List.mem_of_getElem? (i := 713) (by decide +kernel)⟩
theorem lw_p43 : lw_okq (⟨"ShortVectorsModel", "take", "(I)V"⟩, 27) := ⟨⟨by decide +kernel, by decide +kernel⟩, List.mem_of_getElem? (i := 485) (by decide +kernel), List.mem_of_getElem? (i := 716) (by decide +kernel), List.mem_of_getElem? (i := 717) (by decide +kernel)⟩
theorem lw_p44 : lw_okq (⟨"ShortVectorsModel", "range", "(I)V"⟩, 27) := ⟨⟨by decide +kernel, by decide +kernel⟩, List.mem_of_getElem? (i := 485) (by decide +kernel), List.mem_of_getElem? (i := 720) (by decide +kernel), List.mem_of_getElem? (i := 721) (by decide +kernel)⟩
theorem lw_p45 : lw_okq (⟨"ShortVectorsModel", "list", "()V"⟩, 27) := ⟨⟨by decide +kernel, by decide +kernel⟩, List.mem_of_getElem? (i := 485) (by decide +kernel), List.mem_of_getElem? (i := 732) (by decide +kernel), List.mem_of_getElem? (i := 733) (by decide +kernel)⟩
theorem lw_p46 : lw_okq (⟨"ShortVectorsModel", "measure", "()V"⟩, 27) := ⟨⟨by decide +kernel, by decide +kernel⟩, List.mem_of_getElem? (i := 485) (by decide +kernel), List.mem_of_getElem? (i := 740) (by decide +kernel), List.mem_of_getElem? (i := 741) (by decide +kernel)⟩
theorem lw_p47 : lw_okq (⟨"ShortVectorsModel", "reaches", "(II)Z"⟩, 27) := ⟨⟨by decide +kernel, by decide +kernel⟩, List.mem_of_getElem? (i := 485) (by decide +kernel), List.mem_of_getElem? (i := 744) (by decide +kernel), List.mem_of_getElem? (i := 745) (by decide +kernel)⟩
def lw_privs_3 : List (MethodName × Nat) := [(⟨"ShortVectorsModel", "walk", "(IJ)V"⟩, 27), (⟨"ShortVectorsModel", "open", "(I)I"⟩, 27), (⟨"ShortVectorsModel", "visit", "(IJ)V"⟩, 27), (⟨"ShortVectorsModel", "sortIn", "(IJ)V"⟩, 27), (⟨"ShortVectorsModel", "before", "(IJI)Z"⟩, 27), (⟨"ShortVectorsModel", "extend", "(I)V"⟩, 27), (⟨"ShortVectorsModel", "lead", "(I)I"⟩, 27), (⟨"ShortVectorsModel", "shrink", "()V"⟩, 27), (⟨"ShortVectorsModel", "compare", "(IJ)V"⟩, 27), (⟨"ShortVectorsModel", "finish", "(I)V"⟩, 27), (⟨"ShortVectorsModel", "along", "(IJJ)V"⟩, 27), (⟨"ShortVectorsModel", "take", "(I)V"⟩, 27), (⟨"ShortVectorsModel", "range", "(I)V"⟩, 27), (⟨"ShortVectorsModel", "list", "()V"⟩, 27), (⟨"ShortVectorsModel", "measure", "()V"⟩, 27), (⟨"ShortVectorsModel", "reaches", "(II)Z"⟩, 27)]
theorem lw_r3 : ∀ q ∈ lw_privs_3, lw_okq q := List.forall_mem_cons.mpr ⟨lw_p32, List.forall_mem_cons.mpr ⟨lw_p33, List.forall_mem_cons.mpr ⟨lw_p34, List.forall_mem_cons.mpr ⟨lw_p35, List.forall_mem_cons.mpr ⟨lw_p36, List.forall_mem_cons.mpr ⟨lw_p37, List.forall_mem_cons.mpr ⟨lw_p38, List.forall_mem_cons.mpr ⟨lw_p39, List.forall_mem_cons.mpr ⟨lw_p40, List.forall_mem_cons.mpr ⟨lw_p41, List.forall_mem_cons.mpr ⟨lw_p42, List.forall_mem_cons.mpr ⟨lw_p43, List.forall_mem_cons.mpr ⟨lw_p44, List.forall_mem_cons.mpr ⟨lw_p45, List.forall_mem_cons.mpr ⟨lw_p46, List.forall_mem_cons.mpr ⟨lw_p47, fun _ h => absurd h List.not_mem_nil⟩⟩⟩⟩⟩⟩⟩⟩⟩⟩⟩⟩⟩⟩⟩⟩
theorem lw_p48 : lw_okq (⟨"ShortVectorsModel", "seek", "(IIII)V"⟩, 27) := ⟨⟨by decide +kernel, by decide +kernel⟩, List.mem_of_getElem? (i := 485) (by decide +kernel), List.mem_of_getElem? (i := 752) (by decide +kernel), List.mem_of_getElem? (i := 753) (by decide +kernel)⟩
def lw_privs_4 : List (MethodName × Nat) := [(⟨"ShortVectorsModel", "seek", "(IIII)V"⟩, 27)]
theorem lw_r4 : ∀ q ∈ lw_privs_4, lw_okq q := List.forall_mem_cons.mpr ⟨lw_p48, fun _ h => absurd h List.not_mem_nil⟩
def lw_privs : List (MethodName × Nat) := lw_privs_1 ++ (lw_privs_2 ++ (lw_privs_3 ++ (lw_privs_4)))
def lw_tbl : List Cond := k2_sels lw_privs ++ tables_1
theorem lw_privs_ok : ∀ q ∈ lw_privs, lw_okq q := by
  show ∀ q ∈ lw_privs_1 ++ (lw_privs_2 ++ (lw_privs_3 ++ (lw_privs_4))), lw_okq q
  exact List.forall_mem_append.mpr ⟨lw_r1, List.forall_mem_append.mpr ⟨lw_r2, List.forall_mem_append.mpr ⟨lw_r3, lw_r4⟩⟩⟩
/-- the words of the tables that a call may hand on -/
def utbl : List Cond := lw_tbl.filter goodWord
theorem u_mem {w : Cond} (h : w ∈ lw_tbl) (hg : goodWord w = true) : w ∈ utbl := List.mem_filter.mpr ⟨h, hg⟩
def uw (y : MethodName) (b : ByteArray) (n : Nat) (r : Option FieldType) : List Cond := .code y b n r :: utbl
theorem uw_in {y : MethodName} {b : ByteArray} {n : Nat} {r : Option FieldType} (h : Cond.code y b n r ∈ utbl) : GoodIn utbl (uw y b n r) := by
  intro w hw
  have h1 : w ∈ utbl := by
    rcases List.mem_cons.mp hw with e | e
    · rw [e]; exact h
    · exact e
  exact ⟨h1, good_of_word (List.mem_filter.mp h1).2⟩
def RM : String := "ShortVectorsModel"
def TM : u_T := fun k => match k with
  | 0 => ("ShortVectorsModel", "many", "I", false)
  | 1 => ("ShortVectorsModel", "generator", "[I", true)
  | 2 => ("ShortVectorsModel", "known", "Z", false)
  | 3 => ("ShortVectorsModel", "without", "I", false)
  | 4 => ("ShortVectorsModel", "rows", "I", false)
  | 5 => ("ShortVectorsModel", "row", "[J", true)
  | 6 => ("ShortVectorsModel", "pivot", "[I", true)
  | 7 => ("ShortVectorsModel", "fresh", "[J", true)
  | 8 => ("ShortVectorsModel", "multiple", "[J", true)
  | 9 => ("ShortVectorsModel", "last", "[J", true)
  | 10 => ("ShortVectorsModel", "made", "[J", true)
  | 11 => ("ShortVectorsModel", "settled", "[J", true)
  | 12 => ("ShortVectorsModel", "point", "[J", true)
  | 13 => ("ShortVectorsModel", "limit", "J", false)
  | 14 => ("ShortVectorsModel", "mode", "I", false)
  | 15 => ("ShortVectorsModel", "counted", "I", false)
  | 16 => ("ShortVectorsModel", "listed", "Z", false)
  | 17 => ("ShortVectorsModel", "held", "I", false)
  | 18 => ("ShortVectorsModel", "first", "[J", true)
  | 19 => ("ShortVectorsModel", "squares", "[J", true)
  | 20 => ("ShortVectorsModel", "wanted", "I", false)
  | 21 => ("ShortVectorsModel", "spanned", "I", false)
  | 22 => ("ShortVectorsModel", "span", "[J", true)
  | 23 => ("ShortVectorsModel", "minima", "[I", true)
  | 24 => ("ShortVectorsModel", "measured", "Z", false)
  | 25 => ("ShortVectorsModel", "found", "[J", true)
  | _ => ("ShortVectorsModel", "any", "Z", false)
def tyM : Nat → FieldType := fun k => match k with
  | 0 => .int
  | 1 => .array .int
  | 2 => .boolean
  | 3 => .int
  | 4 => .int
  | 5 => .array .long
  | 6 => .array .int
  | 7 => .array .long
  | 8 => .array .long
  | 9 => .array .long
  | 10 => .array .long
  | 11 => .array .long
  | 12 => .array .long
  | 13 => .long
  | 14 => .int
  | 15 => .int
  | 16 => .boolean
  | 17 => .int
  | 18 => .array .long
  | 19 => .array .long
  | 20 => .int
  | 21 => .int
  | 22 => .array .long
  | 23 => .array .int
  | 24 => .boolean
  | 25 => .array .long
  | _ => .boolean
theorem nmM : ∀ a, a < 27 → ∀ b, b < 27 → a ≠ b → (TM a).2.1 ≠ (TM b).2.1 := by decide +kernel
theorem tyM_ok : ∀ k, k < 27 → parseFieldDescriptor (TM k).2.2.1 = some (tyM k) := by decide +kernel
theorem wsM_ok : ∀ w ∈ u_ws RM TM 27, w ∈ utbl := fun w h => u_mem ((show ∀ w ∈ u_ws RM TM 27, w ∈ lw_tbl by decide +kernel) w h) ((show ∀ w ∈ u_ws RM TM 27, goodWord w = true by decide +kernel) w h)
def RV : String := "ShortVectors"
def TV : u_T := fun k => match k with
  | 0 => ("ShortVectors", "added", "[[J", true)
  | 1 => ("ShortVectors", "asked", "[J", true)
  | 2 => ("ShortVectors", "echelon", "LShortVectors$Echelon;", true)
  | 3 => ("ShortVectors", "others", "LShortVectors$Echelon;", true)
  | 4 => ("ShortVectors", "basis", "LShortVectors$Basis;", true)
  | 5 => ("ShortVectors", "tally", "LShortVectors$Tally;", true)
  | 6 => ("ShortVectors", "first", "LShortVectors$FirstVectors;", true)
  | 7 => ("ShortVectors", "closest", "LShortVectors$Closest;", true)
  | 8 => ("ShortVectors", "held", "I", false)
  | 9 => ("ShortVectors", "reduced", "Z", false)
  | 10 => ("ShortVectors", "tallied", "Z", false)
  | _ => ("ShortVectors", "listed", "Z", false)
def tyV : Nat → FieldType := fun k => match k with
  | 0 => .array (.array .long)
  | 1 => .array .long
  | 2 => .object "ShortVectors$Echelon"
  | 3 => .object "ShortVectors$Echelon"
  | 4 => .object "ShortVectors$Basis"
  | 5 => .object "ShortVectors$Tally"
  | 6 => .object "ShortVectors$FirstVectors"
  | 7 => .object "ShortVectors$Closest"
  | 8 => .int
  | 9 => .boolean
  | 10 => .boolean
  | _ => .boolean
theorem nmV : ∀ a, a < 12 → ∀ b, b < 12 → a ≠ b → (TV a).2.1 ≠ (TV b).2.1 := by decide +kernel
theorem tyV_ok : ∀ k, k < 12 → parseFieldDescriptor (TV k).2.2.1 = some (tyV k) := by decide +kernel
theorem wsV_ok : ∀ w ∈ u_ws RV TV 12, w ∈ utbl := fun w h => u_mem ((show ∀ w ∈ u_ws RV TV 12, w ∈ lw_tbl by decide +kernel) w h) ((show ∀ w ∈ u_ws RV TV 12, goodWord w = true by decide +kernel) w h)
def RE : String := "ShortVectors$Echelon"
def TE : u_T := fun k => match k with
  | 0 => ("ShortVectors$Echelon", "rows", "[[J", true)
  | _ => ("ShortVectors$Echelon", "rest", "[J", true)
def tyE : Nat → FieldType := fun k => match k with
  | 0 => .array (.array .long)
  | _ => .array .long
theorem nmE : ∀ a, a < 2 → ∀ b, b < 2 → a ≠ b → (TE a).2.1 ≠ (TE b).2.1 := by decide +kernel
theorem tyE_ok : ∀ k, k < 2 → parseFieldDescriptor (TE k).2.2.1 = some (tyE k) := by decide +kernel
theorem wsE_ok : ∀ w ∈ u_ws RE TE 2, w ∈ utbl := fun w h => u_mem ((show ∀ w ∈ u_ws RE TE 2, w ∈ lw_tbl by decide +kernel) w h) ((show ∀ w ∈ u_ws RE TE 2, goodWord w = true by decide +kernel) w h)
def RB : String := "ShortVectors$Basis"
def TB : u_T := fun k => match k with
  | 0 => ("ShortVectors$Basis", "rows", "[[J", true)
  | 1 => ("ShortVectors$Basis", "directions", "[[J", true)
  | 2 => ("ShortVectors$Basis", "directionSquares", "[J", true)
  | 3 => ("ShortVectors$Basis", "strides", "[J", true)
  | 4 => ("ShortVectors$Basis", "sums", "[[J", true)
  | 5 => ("ShortVectors$Basis", "minors", "[[J", true)
  | 6 => ("ShortVectors$Basis", "trial", "[J", true)
  | _ => ("ShortVectors$Basis", "size", "I", false)
def tyB : Nat → FieldType := fun k => match k with
  | 0 => .array (.array .long)
  | 1 => .array (.array .long)
  | 2 => .array .long
  | 3 => .array .long
  | 4 => .array (.array .long)
  | 5 => .array (.array .long)
  | 6 => .array .long
  | _ => .int
theorem nmB : ∀ a, a < 8 → ∀ b, b < 8 → a ≠ b → (TB a).2.1 ≠ (TB b).2.1 := by decide +kernel
theorem tyB_ok : ∀ k, k < 8 → parseFieldDescriptor (TB k).2.2.1 = some (tyB k) := by decide +kernel
theorem wsB_ok : ∀ w ∈ u_ws RB TB 8, w ∈ utbl := fun w h => u_mem ((show ∀ w ∈ u_ws RB TB 8, w ∈ lw_tbl by decide +kernel) w h) ((show ∀ w ∈ u_ws RB TB 8, goodWord w = true by decide +kernel) w h)
def RT : String := "ShortVectors$Tally"
def TT : u_T := fun k => match k with
  | 0 => ("ShortVectors$Collector", "goal", "[J", true)
  | 1 => ("ShortVectors$Collector", "budget", "J", false)
  | _ => ("ShortVectors$Tally", "sums", "[I", true)
def tyT : Nat → FieldType := fun k => match k with
  | 0 => .array .long
  | 1 => .long
  | _ => .array .int
theorem nmT : ∀ a, a < 3 → ∀ b, b < 3 → a ≠ b → (TT a).2.1 ≠ (TT b).2.1 := by decide +kernel
theorem tyT_ok : ∀ k, k < 3 → parseFieldDescriptor (TT k).2.2.1 = some (tyT k) := by decide +kernel
theorem wsT_ok : ∀ w ∈ u_ws RT TT 3, w ∈ utbl := fun w h => u_mem ((show ∀ w ∈ u_ws RT TT 3, w ∈ lw_tbl by decide +kernel) w h) ((show ∀ w ∈ u_ws RT TT 3, goodWord w = true by decide +kernel) w h)
def RF : String := "ShortVectors$FirstVectors"
def TF : u_T := fun k => match k with
  | 0 => ("ShortVectors$Collector", "goal", "[J", true)
  | 1 => ("ShortVectors$Collector", "budget", "J", false)
  | 2 => ("ShortVectors$FirstVectors", "vectors", "[[J", true)
  | 3 => ("ShortVectors$FirstVectors", "squares", "[J", true)
  | _ => ("ShortVectors$FirstVectors", "listLength", "I", false)
def tyF : Nat → FieldType := fun k => match k with
  | 0 => .array .long
  | 1 => .long
  | 2 => .array (.array .long)
  | 3 => .array .long
  | _ => .int
theorem nmF : ∀ a, a < 5 → ∀ b, b < 5 → a ≠ b → (TF a).2.1 ≠ (TF b).2.1 := by decide +kernel
theorem tyF_ok : ∀ k, k < 5 → parseFieldDescriptor (TF k).2.2.1 = some (tyF k) := by decide +kernel
theorem wsF_ok : ∀ w ∈ u_ws RF TF 5, w ∈ utbl := fun w h => u_mem ((show ∀ w ∈ u_ws RF TF 5, w ∈ lw_tbl by decide +kernel) w h) ((show ∀ w ∈ u_ws RF TF 5, goodWord w = true by decide +kernel) w h)
def RC : String := "ShortVectors$Closest"
def TC : u_T := fun k => match k with
  | 0 => ("ShortVectors$Collector", "goal", "[J", true)
  | 1 => ("ShortVectors$Collector", "budget", "J", false)
  | 2 => ("ShortVectors$Closest", "best", "[J", true)
  | _ => ("ShortVectors$Closest", "bestSquare", "J", false)
def tyC : Nat → FieldType := fun k => match k with
  | 0 => .array .long
  | 1 => .long
  | 2 => .array .long
  | _ => .long
theorem nmC : ∀ a, a < 4 → ∀ b, b < 4 → a ≠ b → (TC a).2.1 ≠ (TC b).2.1 := by decide +kernel
theorem tyC_ok : ∀ k, k < 4 → parseFieldDescriptor (TC k).2.2.1 = some (tyC k) := by decide +kernel
theorem wsC_ok : ∀ w ∈ u_ws RC TC 4, w ∈ utbl := fun w h => u_mem ((show ∀ w ∈ u_ws RC TC 4, w ∈ lw_tbl by decide +kernel) w h) ((show ∀ w ∈ u_ws RC TC 4, goodWord w = true by decide +kernel) w h)
abbrev classes : List vw_C := [(RM, TM, 27), (RV, TV, 12), (RE, TE, 2), (RB, TB, 8), (RT, TT, 3), (RF, TF, 5), (RC, TC, 4)]
/-! the world: NW cells at fixed addresses, their contents a function of the place -/
def NW : Nat := 114
abbrev ctx : Type := (Nat → Nat) × ClassId × ClassId × ClassId
abbrev tysOf (κ : ctx) : List (ClassId × FieldType) := [(κ.2.1, .int), (κ.2.2.1, .long), (κ.2.2.2, .array .long)]
def wl (h : Nat → Nat) (L : Nat → va_E) : va_W := (List.range NW).map (fun k => (h k, L k))
theorem wl_get {h : Nat → Nat} {L : Nat → va_E} {k : Nat} (hk : k < NW) : (wl h L)[k]? = some (h k, L k) := by
  simp [wl, hk]
theorem wl_lt {h : Nat → Nat} {L : Nat → va_E} {k : Nat} {q : Nat × va_E} (hk : (wl h L)[k]? = some q) : k < NW ∧ q = (h k, L k) := by
  have h1 : k < (wl h L).length := (List.getElem?_eq_some_iff.mp hk).1
  have h2 : k < NW := by simpa [wl] using h1
  rw [wl_get h2] at hk
  exact ⟨h2, (Option.some.inj hk).symm⟩
theorem wl_set {h : Nat → Nat} {L : Nat → va_E} {k : Nat} {e : va_E} : (wl h L).set k (h k, e) = wl h (va_up L k e) := by
  apply List.ext_getElem?
  intro j
  by_cases hj : j < NW
  · rw [wl_get hj, List.getElem?_set]
    by_cases e1 : k = j
    · subst e1
      simp [wl, hj, va_up]
    · have : j ≠ k := fun q => e1 q.symm
      simp [e1, wl_get hj, va_up, this]
  · have h1 : (wl h (va_up L k e))[j]? = none := List.getElem?_eq_none (by simp [wl]; omega)
    have h2 : ((wl h L).set k (h k, e))[j]? = none := List.getElem?_eq_none (by simp [wl]; omega)
    rw [h1, h2]
theorem wl_D {h : Nat → Nat} {L : Nat → va_E} {A : Nat → Prop} (hi : ∀ i j, i < NW → j < NW → h i = h j → i = j) (hA : ∀ k, k < NW → A (h k)) : va_D A (wl h L) := by
  refine ⟨fun i j p q hp hq e => ?_, fun k q hk => ?_⟩
  · obtain ⟨a, rfl⟩ := wl_lt hp
    obtain ⟨b, rfl⟩ := wl_lt hq
    exact hi i j a b e
  · obtain ⟨a, rfl⟩ := wl_lt hk
    exact hA k a
theorem wl_A {h : Nat → Nat} {L : Nat → va_E} {sz : Nat} {k : Nat} (hk : k < NW) : va_A (wl h L) sz (h k) := Or.inl ⟨k, L k, wl_get hk⟩
theorem wl_Ain {h : Nat → Nat} {L : Nat → va_E} {sz : Nat} {A : Nat → Prop} (hA : ∀ k, k < NW → A (h k)) (hs : ∀ q, sz ≤ q → A q) : ∀ q, va_A (wl h L) sz q → A q := by
  intro q hq
  rcases hq with ⟨k, e, hk⟩ | hq
  · obtain ⟨a, b⟩ := wl_lt hk
    rw [(Prod.mk.inj b).1]
    exact hA k a
  · exact hs q hq
/-! the words of nest mates, carried beside the others -/
def isNest (w : Cond) : Bool := match w with | .methodLinkNest .. => true | _ => false
def NS (U : State) : Prop := ∀ w ∈ lw_tbl, isNest w = true → va_Nw w U
theorem NS.warm {s U : State} (hW : s.WarmedH U.vm) (h : NS s) : NS U := by
  intro w hw hn
  have h1 := h w hw hn
  cases w <;> first | exact va_Nw.warmM hW h1 | (simp [isNest] at hn)
theorem NS.same {u U : State} (hv : u.vm = U.vm) (h : NS u) : NS U := by
  intro w hw hn
  have h1 := h w hw hn
  cases w <;> first | exact va_Nw.same rfl hv h1 | (simp [isNest] at hn)
/-! the judgement -/
abbrev Gm : Type := Program × Launch × Env × Room × State × MethodId × Array Value × List Frame × Method × Code × Nat × Nat × (State → Prop) × va_G × (Nat → Prop)
def J (g : Gm) (κ : ctx) (nL : Nat) (pc : Nat) (lv : List (Nat × Value)) (st : List Value) (L : Nat → va_E) : Prop :=
  match g with
  | (p, l, e, R, s, m, args, below, meth, c, cells, slots, Q, D, A) => ∀ (H : Heap) (locs : List Loc) (ls : Array Slot), va_P D classes (wl κ.1 L) H → va_S A s.heap H locs → lv_has ls nL lv → W p l e R s m args below meth c H locs cells slots Q (F0 m pc ls st)
def OK (g : Gm) (κ : ctx) (own : String) (cc : ByteArray) (nL : Nat) (ret : Option FieldType) (rm : Room) : Prop :=
  match g with
  | (p, _, _, R, s, m, args, _, meth, c, cells, slots, _, D, A) => p.tables.exec = Jvm.exec ∧ c.code = cc ∧ c.maxLocals = nL ∧ meth.sig.returnType = ret ∧ meth.locks = false ∧ s.vm.findClass own = some m.cls ∧ (∀ w ∈ utbl, w.before args s = true) ∧ va_K D classes (tysOf κ) s ∧ NS s ∧ (∀ i j, i < NW → j < NW → κ.1 i = κ.1 j → i = j) ∧ (∀ k, k < NW → A (κ.1 k)) ∧ (∀ q, s.heap.size ≤ q → A q) ∧ cells ≤ R.cells ∧ slots ≤ R.slots ∧ R = rm
def Qx (D : va_G) (κ : ctx) (A : Nat → Prop) (v : Option Value) (L' : Nat → va_E) : Array Value → State → Outcome → State → Prop := fun _ st oc t => (oc = .returned v ∧ va_P D classes (wl κ.1 L') t.heap) ∧ va_F A st t
/-- a return of v with the world L' is what the method's contract asks -/
def Fn (g : Gm) (κ : ctx) (v : Option Value) (L' : Nat → va_E) : Prop :=
  match g with
  | (_, _, _, _, s, _, args, below, _, _, cells, slots, Q, D, A) => Q = MQ below (Qx D κ A v L') args s cells slots A
def Pre (D : va_G) (κ : ctx) (L : Nat → va_E) (sz : Nat) (U : State) : Prop := U.heap.size = sz ∧ va_P D classes (wl κ.1 L) U.heap ∧ va_K D classes (tysOf κ) U ∧ NS U ∧ (∀ i j, i < NW → j < NW → κ.1 i = κ.1 j → i = j)
/-- THE CONTRACT: from the world L with the arguments av the method returns v with the world L' -/
def Mt (y : MethodName) (b : ByteArray) (nL : Nat) (ret : Option FieldType) (rm : Room) (κ : ctx) (av : List Value) (L : Nat → va_E) (v : Option Value) (L' : Nat → va_E) : Prop :=
  ∀ (l : Launch) (D : va_G) (sz : Nat), Met l y (uw y b nL ret) rm (va_Pc av (Pre D κ L sz)) (Qx D κ (va_A (wl κ.1 L) sz) v L') 0 0 (va_A (wl κ.1 L) sz)
theorem Mt.of {y : MethodName} {b : ByteArray} {nL : Nat} {ret : Option FieldType} {rm : Room} {κ : ctx} {av : List Value} {L L' : Nat → va_E} {v : Option Value} (hy : plainName y.cls = true) (hn : (lg_sl av).length ≤ nL)
    (body : ∀ g : Gm, OK g κ y.cls b nL ret rm → Fn g κ v L' → J g κ nL 0 (lv_args 0 av) [] L) : Mt y b nL ret rm κ av L v L' := by
  intro l D sz
  refine Met.ofW (cc := b) (maxL := nL) (ret := ret) hy rfl ?_
  intro p e s m args below meth c s₁ B hml hv
  obtain ⟨rfl, hsz, hP, hK, hN, hi⟩ := hv
  have hts := atoms_spec (ws := uw y b nL ret) B.pre
  have hown : s.vm.findClass y.cls = some m.cls := findClass_of_methodNamed B.named
  subst hsz
  have hl := lv_entry av (n := nL) hn
  rw [lg_entry_eq]
  exact body (p, l, e, rm, s, m, av.toArray, below, meth, c, 0, 0, MQ below (Qx D κ (va_A (wl κ.1 L) s.heap.size) v L') av.toArray s 0 0 (va_A (wl κ.1 L) s.heap.size), D, va_A (wl κ.1 L) s.heap.size)
    ⟨B.exec, B.bytes, hml, B.returns, B.notSynchronized, hown, fun w hw => hts w (List.mem_cons_of_mem _ hw), hK, hN, hi, fun k hk => wl_A hk, fun q hq => Or.inr hq, Nat.zero_le _, Nat.zero_le _, rfl⟩ rfl _ _ _ hP va_S.rf hl
end
section
theorem w_iconst {g : Gm} {κ : ctx} {own : String} {cc : ByteArray} {nL : Nat} {ret : Option FieldType} {rm : Room} (G : OK g κ own cc nL ret rm) {pc : Nat} {lv : List (Nat × Value)} {rest : List Value} {L : Nat → va_E} {n : Int} {v : Int32} (hd : decode cc pc = .ok (.iconst n, 1)) (hv : Int32.ofInt n = v) (k : J g κ nL (pc + 1) lv (.int v :: rest) L) : J g κ nL pc lv (rest) L := by
  obtain ⟨p, l, e, R, s, m, args, below, meth, c, cells, slots, Q, D, A⟩ := g
  obtain ⟨hx, hb, hml, hr, hlk, hown, hts, hK, hN, hi, hA1, hA2, hc, hs, hR⟩ := G
  intro H locs ls hP hS hl
  exact lv_iconst hx hb hd hv (k H locs ls hP hS hl)
theorem w_bipush {g : Gm} {κ : ctx} {own : String} {cc : ByteArray} {nL : Nat} {ret : Option FieldType} {rm : Room} (G : OK g κ own cc nL ret rm) {pc : Nat} {lv : List (Nat × Value)} {rest : List Value} {L : Nat → va_E} {n : Int} {v : Int32} (hd : decode cc pc = .ok (.bipush n, 2)) (hv : (Int8.ofInt n).toInt32 = v) (k : J g κ nL (pc + 2) lv (.int v :: rest) L) : J g κ nL pc lv (rest) L := by
  obtain ⟨p, l, e, R, s, m, args, below, meth, c, cells, slots, Q, D, A⟩ := g
  obtain ⟨hx, hb, hml, hr, hlk, hown, hts, hK, hN, hi, hA1, hA2, hc, hs, hR⟩ := G
  intro H locs ls hP hS hl
  exact lv_bipush hx hb hd hv (k H locs ls hP hS hl)
theorem w_sipush {g : Gm} {κ : ctx} {own : String} {cc : ByteArray} {nL : Nat} {ret : Option FieldType} {rm : Room} (G : OK g κ own cc nL ret rm) {pc : Nat} {lv : List (Nat × Value)} {rest : List Value} {L : Nat → va_E} {n : Int} {v : Int32} (hd : decode cc pc = .ok (.sipush n, 3)) (hv : (Int16.ofInt n).toInt32 = v) (k : J g κ nL (pc + 3) lv (.int v :: rest) L) : J g κ nL pc lv (rest) L := by
  obtain ⟨p, l, e, R, s, m, args, below, meth, c, cells, slots, Q, D, A⟩ := g
  obtain ⟨hx, hb, hml, hr, hlk, hown, hts, hK, hN, hi, hA1, hA2, hc, hs, hR⟩ := G
  intro H locs ls hP hS hl
  exact lv_sipush hx hb hd hv (k H locs ls hP hS hl)
theorem w_lconst {g : Gm} {κ : ctx} {own : String} {cc : ByteArray} {nL : Nat} {ret : Option FieldType} {rm : Room} (G : OK g κ own cc nL ret rm) {pc : Nat} {lv : List (Nat × Value)} {rest : List Value} {L : Nat → va_E} {n : Fin 2} {v : Int64} (hd : decode cc pc = .ok (.lconst n, 1)) (hv : Int64.ofNat (n : Nat) = v) (k : J g κ nL (pc + 1) lv (.long v :: rest) L) : J g κ nL pc lv (rest) L := by
  obtain ⟨p, l, e, R, s, m, args, below, meth, c, cells, slots, Q, D, A⟩ := g
  obtain ⟨hx, hb, hml, hr, hlk, hown, hts, hK, hN, hi, hA1, hA2, hc, hs, hR⟩ := G
  intro H locs ls hP hS hl
  exact lv_lconst hx hb hd hv (k H locs ls hP hS hl)
theorem w_iload_n {g : Gm} {κ : ctx} {own : String} {cc : ByteArray} {nL : Nat} {ret : Option FieldType} {rm : Room} (G : OK g κ own cc nL ret rm) {pc : Nat} {lv : List (Nat × Value)} {rest : List Value} {L : Nat → va_E} {k0 : Fin 4} {i q : Nat} {x : Int32} (hd : decode cc pc = .ok (.iload_n k0, 1)) (h0 : (k0 : Nat) = i) (hq : lv[q]? = some (i, .int x)) (k : J g κ nL (pc + 1) lv (.int x :: rest) L) : J g κ nL pc lv (rest) L := by
  obtain ⟨p, l, e, R, s, m, args, below, meth, c, cells, slots, Q, D, A⟩ := g
  obtain ⟨hx, hb, hml, hr, hlk, hown, hts, hK, hN, hi, hA1, hA2, hc, hs, hR⟩ := G
  intro H locs ls hP hS hl
  exact lv_iload_n hx hb hd h0 (lv_at hl q hq) (k H locs ls hP hS hl)
theorem w_iload {g : Gm} {κ : ctx} {own : String} {cc : ByteArray} {nL : Nat} {ret : Option FieldType} {rm : Room} (G : OK g κ own cc nL ret rm) {pc : Nat} {lv : List (Nat × Value)} {rest : List Value} {L : Nat → va_E} {i q : Nat} {x : Int32} (hd : decode cc pc = .ok (.iload i, 2)) (hq : lv[q]? = some (i, .int x)) (k : J g κ nL (pc + 2) lv (.int x :: rest) L) : J g κ nL pc lv (rest) L := by
  obtain ⟨p, l, e, R, s, m, args, below, meth, c, cells, slots, Q, D, A⟩ := g
  obtain ⟨hx, hb, hml, hr, hlk, hown, hts, hK, hN, hi, hA1, hA2, hc, hs, hR⟩ := G
  intro H locs ls hP hS hl
  exact lv_iload hx hb hd (lv_at hl q hq) (k H locs ls hP hS hl)
theorem w_istore_n {g : Gm} {κ : ctx} {own : String} {cc : ByteArray} {nL : Nat} {ret : Option FieldType} {rm : Room} (G : OK g κ own cc nL ret rm) {pc : Nat} {lv : List (Nat × Value)} {rest : List Value} {L : Nat → va_E} {k0 : Fin 4} {i : Nat} {x : Int32} {lv' : List (Nat × Value)} (hd : decode cc pc = .ok (.istore_n k0, 1)) (h0 : (k0 : Nat) = i) (hn : i < nL) (hv : (i, Value.int x) :: lv.filter (fun q => !(q.1 == i) && !(q.1 + 1 == i && q.2.category == 2)) = lv') (k : J g κ nL (pc + 1) lv' rest L) : J g κ nL pc lv (.int x :: rest) L := by
  obtain ⟨p, l, e, R, s, m, args, below, meth, c, cells, slots, Q, D, A⟩ := g
  obtain ⟨hx, hb, hml, hr, hlk, hown, hts, hK, hN, hi, hA1, hA2, hc, hs, hR⟩ := G
  intro H locs ls hP hS hl
  exact lv_istore_n hx hb hd h0 hl hn hv (fun ls' hl' => k H locs ls' hP hS hl')
theorem w_istore {g : Gm} {κ : ctx} {own : String} {cc : ByteArray} {nL : Nat} {ret : Option FieldType} {rm : Room} (G : OK g κ own cc nL ret rm) {pc : Nat} {lv : List (Nat × Value)} {rest : List Value} {L : Nat → va_E} {i : Nat} {x : Int32} {lv' : List (Nat × Value)} (hd : decode cc pc = .ok (.istore i, 2)) (hn : i < nL) (hv : (i, Value.int x) :: lv.filter (fun q => !(q.1 == i) && !(q.1 + 1 == i && q.2.category == 2)) = lv') (k : J g κ nL (pc + 2) lv' rest L) : J g κ nL pc lv (.int x :: rest) L := by
  obtain ⟨p, l, e, R, s, m, args, below, meth, c, cells, slots, Q, D, A⟩ := g
  obtain ⟨hx, hb, hml, hr, hlk, hown, hts, hK, hN, hi, hA1, hA2, hc, hs, hR⟩ := G
  intro H locs ls hP hS hl
  exact lv_istore hx hb hd hl hn hv (fun ls' hl' => k H locs ls' hP hS hl')
theorem w_lload_n {g : Gm} {κ : ctx} {own : String} {cc : ByteArray} {nL : Nat} {ret : Option FieldType} {rm : Room} (G : OK g κ own cc nL ret rm) {pc : Nat} {lv : List (Nat × Value)} {rest : List Value} {L : Nat → va_E} {k0 : Fin 4} {i q : Nat} {x : Int64} (hd : decode cc pc = .ok (.lload_n k0, 1)) (h0 : (k0 : Nat) = i) (hq : lv[q]? = some (i, .long x)) (k : J g κ nL (pc + 1) lv (.long x :: rest) L) : J g κ nL pc lv (rest) L := by
  obtain ⟨p, l, e, R, s, m, args, below, meth, c, cells, slots, Q, D, A⟩ := g
  obtain ⟨hx, hb, hml, hr, hlk, hown, hts, hK, hN, hi, hA1, hA2, hc, hs, hR⟩ := G
  intro H locs ls hP hS hl
  exact lv_lload_n hx hb hd h0 (lv_at hl q hq) (k H locs ls hP hS hl)
theorem w_lload {g : Gm} {κ : ctx} {own : String} {cc : ByteArray} {nL : Nat} {ret : Option FieldType} {rm : Room} (G : OK g κ own cc nL ret rm) {pc : Nat} {lv : List (Nat × Value)} {rest : List Value} {L : Nat → va_E} {i q : Nat} {x : Int64} (hd : decode cc pc = .ok (.lload i, 2)) (hq : lv[q]? = some (i, .long x)) (k : J g κ nL (pc + 2) lv (.long x :: rest) L) : J g κ nL pc lv (rest) L := by
  obtain ⟨p, l, e, R, s, m, args, below, meth, c, cells, slots, Q, D, A⟩ := g
  obtain ⟨hx, hb, hml, hr, hlk, hown, hts, hK, hN, hi, hA1, hA2, hc, hs, hR⟩ := G
  intro H locs ls hP hS hl
  exact lv_lload hx hb hd (lv_at hl q hq) (k H locs ls hP hS hl)
theorem w_lstore_n {g : Gm} {κ : ctx} {own : String} {cc : ByteArray} {nL : Nat} {ret : Option FieldType} {rm : Room} (G : OK g κ own cc nL ret rm) {pc : Nat} {lv : List (Nat × Value)} {rest : List Value} {L : Nat → va_E} {k0 : Fin 4} {i : Nat} {x : Int64} {lv' : List (Nat × Value)} (hd : decode cc pc = .ok (.lstore_n k0, 1)) (h0 : (k0 : Nat) = i) (hn : i + 1 < nL) (hv : (i, Value.long x) :: lv.filter (fun q => !(q.1 == i) && (!(q.1 == i + 1) && !(q.1 + 1 == i && q.2.category == 2))) = lv') (k : J g κ nL (pc + 1) lv' rest L) : J g κ nL pc lv (.long x :: rest) L := by
  obtain ⟨p, l, e, R, s, m, args, below, meth, c, cells, slots, Q, D, A⟩ := g
  obtain ⟨hx, hb, hml, hr, hlk, hown, hts, hK, hN, hi, hA1, hA2, hc, hs, hR⟩ := G
  intro H locs ls hP hS hl
  exact lv_lstore_n hx hb hd h0 hl hn hv (fun ls' hl' => k H locs ls' hP hS hl')
theorem w_lstore {g : Gm} {κ : ctx} {own : String} {cc : ByteArray} {nL : Nat} {ret : Option FieldType} {rm : Room} (G : OK g κ own cc nL ret rm) {pc : Nat} {lv : List (Nat × Value)} {rest : List Value} {L : Nat → va_E} {i : Nat} {x : Int64} {lv' : List (Nat × Value)} (hd : decode cc pc = .ok (.lstore i, 2)) (hn : i + 1 < nL) (hv : (i, Value.long x) :: lv.filter (fun q => !(q.1 == i) && (!(q.1 == i + 1) && !(q.1 + 1 == i && q.2.category == 2))) = lv') (k : J g κ nL (pc + 2) lv' rest L) : J g κ nL pc lv (.long x :: rest) L := by
  obtain ⟨p, l, e, R, s, m, args, below, meth, c, cells, slots, Q, D, A⟩ := g
  obtain ⟨hx, hb, hml, hr, hlk, hown, hts, hK, hN, hi, hA1, hA2, hc, hs, hR⟩ := G
  intro H locs ls hP hS hl
  exact lv_lstore hx hb hd hl hn hv (fun ls' hl' => k H locs ls' hP hS hl')
theorem w_aload_n {g : Gm} {κ : ctx} {own : String} {cc : ByteArray} {nL : Nat} {ret : Option FieldType} {rm : Room} (G : OK g κ own cc nL ret rm) {pc : Nat} {lv : List (Nat × Value)} {rest : List Value} {L : Nat → va_E} {k0 : Fin 4} {i q : Nat} {x : Nat} (hd : decode cc pc = .ok (.aload_n k0, 1)) (h0 : (k0 : Nat) = i) (hq : lv[q]? = some (i, .ref x)) (k : J g κ nL (pc + 1) lv (.ref x :: rest) L) : J g κ nL pc lv (rest) L := by
  obtain ⟨p, l, e, R, s, m, args, below, meth, c, cells, slots, Q, D, A⟩ := g
  obtain ⟨hx, hb, hml, hr, hlk, hown, hts, hK, hN, hi, hA1, hA2, hc, hs, hR⟩ := G
  intro H locs ls hP hS hl
  exact lv_aload_n hx hb hd h0 (lv_at hl q hq) (k H locs ls hP hS hl)
theorem w_aload {g : Gm} {κ : ctx} {own : String} {cc : ByteArray} {nL : Nat} {ret : Option FieldType} {rm : Room} (G : OK g κ own cc nL ret rm) {pc : Nat} {lv : List (Nat × Value)} {rest : List Value} {L : Nat → va_E} {i q : Nat} {x : Nat} (hd : decode cc pc = .ok (.aload i, 2)) (hq : lv[q]? = some (i, .ref x)) (k : J g κ nL (pc + 2) lv (.ref x :: rest) L) : J g κ nL pc lv (rest) L := by
  obtain ⟨p, l, e, R, s, m, args, below, meth, c, cells, slots, Q, D, A⟩ := g
  obtain ⟨hx, hb, hml, hr, hlk, hown, hts, hK, hN, hi, hA1, hA2, hc, hs, hR⟩ := G
  intro H locs ls hP hS hl
  exact lv_aload hx hb hd (lv_at hl q hq) (k H locs ls hP hS hl)
theorem w_astore_n {g : Gm} {κ : ctx} {own : String} {cc : ByteArray} {nL : Nat} {ret : Option FieldType} {rm : Room} (G : OK g κ own cc nL ret rm) {pc : Nat} {lv : List (Nat × Value)} {rest : List Value} {L : Nat → va_E} {k0 : Fin 4} {i : Nat} {x : Nat} {lv' : List (Nat × Value)} (hd : decode cc pc = .ok (.astore_n k0, 1)) (h0 : (k0 : Nat) = i) (hn : i < nL) (hv : (i, Value.ref x) :: lv.filter (fun q => !(q.1 == i) && !(q.1 + 1 == i && q.2.category == 2)) = lv') (k : J g κ nL (pc + 1) lv' rest L) : J g κ nL pc lv (.ref x :: rest) L := by
  obtain ⟨p, l, e, R, s, m, args, below, meth, c, cells, slots, Q, D, A⟩ := g
  obtain ⟨hx, hb, hml, hr, hlk, hown, hts, hK, hN, hi, hA1, hA2, hc, hs, hR⟩ := G
  intro H locs ls hP hS hl
  exact lv_astore_n hx hb hd h0 hl hn hv (fun ls' hl' => k H locs ls' hP hS hl')
theorem w_astore {g : Gm} {κ : ctx} {own : String} {cc : ByteArray} {nL : Nat} {ret : Option FieldType} {rm : Room} (G : OK g κ own cc nL ret rm) {pc : Nat} {lv : List (Nat × Value)} {rest : List Value} {L : Nat → va_E} {i : Nat} {x : Nat} {lv' : List (Nat × Value)} (hd : decode cc pc = .ok (.astore i, 2)) (hn : i < nL) (hv : (i, Value.ref x) :: lv.filter (fun q => !(q.1 == i) && !(q.1 + 1 == i && q.2.category == 2)) = lv') (k : J g κ nL (pc + 2) lv' rest L) : J g κ nL pc lv (.ref x :: rest) L := by
  obtain ⟨p, l, e, R, s, m, args, below, meth, c, cells, slots, Q, D, A⟩ := g
  obtain ⟨hx, hb, hml, hr, hlk, hown, hts, hK, hN, hi, hA1, hA2, hc, hs, hR⟩ := G
  intro H locs ls hP hS hl
  exact lv_astore hx hb hd hl hn hv (fun ls' hl' => k H locs ls' hP hS hl')
theorem w_iinc {g : Gm} {κ : ctx} {own : String} {cc : ByteArray} {nL : Nat} {ret : Option FieldType} {rm : Room} (G : OK g κ own cc nL ret rm) {pc : Nat} {lv : List (Nat × Value)} {rest : List Value} {L : Nat → va_E} {i q0 : Nat} {n : Int} {x v : Int32} {lv' : List (Nat × Value)} (hd : decode cc pc = .ok (.iinc i n, 3)) (hq : lv[q0]? = some (i, .int x)) (hv : x + Int32.ofInt n = v) (hn : i < nL) (hl' : (i, Value.int v) :: lv.filter (fun q => !(q.1 == i) && !(q.1 + 1 == i && q.2.category == 2)) = lv') (k : J g κ nL (pc + 3) lv' rest L) : J g κ nL pc lv rest L := by
  obtain ⟨p, l, e, R, s, m, args, below, meth, c, cells, slots, Q, D, A⟩ := g
  obtain ⟨hx, hb, hml, hr, hlk, hown, hts, hK, hN, hi, hA1, hA2, hc, hs, hR⟩ := G
  intro H locs ls hP hS hl
  exact lv_iinc hx hb hd hl hq hv hn hl' (fun ls1 hl1 => k H locs ls1 hP hS hl1)
theorem w_iadd {g : Gm} {κ : ctx} {own : String} {cc : ByteArray} {nL : Nat} {ret : Option FieldType} {rm : Room} (G : OK g κ own cc nL ret rm) {pc : Nat} {lv : List (Nat × Value)} {rest : List Value} {L : Nat → va_E} {x y : Int32} (hd : decode cc pc = .ok (.iadd, 1)) (k : J g κ nL (pc + 1) lv (.int (x + y) :: rest) L) : J g κ nL pc lv (.int y :: .int x :: rest) L := by
  obtain ⟨p, l, e, R, s, m, args, below, meth, c, cells, slots, Q, D, A⟩ := g
  obtain ⟨hx, hb, hml, hr, hlk, hown, hts, hK, hN, hi, hA1, hA2, hc, hs, hR⟩ := G
  intro H locs ls hP hS hl
  exact lv_iadd hx hb hd (k H locs ls hP hS hl)
theorem w_isub {g : Gm} {κ : ctx} {own : String} {cc : ByteArray} {nL : Nat} {ret : Option FieldType} {rm : Room} (G : OK g κ own cc nL ret rm) {pc : Nat} {lv : List (Nat × Value)} {rest : List Value} {L : Nat → va_E} {x y : Int32} (hd : decode cc pc = .ok (.isub, 1)) (k : J g κ nL (pc + 1) lv (.int (x - y) :: rest) L) : J g κ nL pc lv (.int y :: .int x :: rest) L := by
  obtain ⟨p, l, e, R, s, m, args, below, meth, c, cells, slots, Q, D, A⟩ := g
  obtain ⟨hx, hb, hml, hr, hlk, hown, hts, hK, hN, hi, hA1, hA2, hc, hs, hR⟩ := G
  intro H locs ls hP hS hl
  exact lv_isub hx hb hd (k H locs ls hP hS hl)
theorem w_imul {g : Gm} {κ : ctx} {own : String} {cc : ByteArray} {nL : Nat} {ret : Option FieldType} {rm : Room} (G : OK g κ own cc nL ret rm) {pc : Nat} {lv : List (Nat × Value)} {rest : List Value} {L : Nat → va_E} {x y : Int32} (hd : decode cc pc = .ok (.imul, 1)) (k : J g κ nL (pc + 1) lv (.int (x * y) :: rest) L) : J g κ nL pc lv (.int y :: .int x :: rest) L := by
  obtain ⟨p, l, e, R, s, m, args, below, meth, c, cells, slots, Q, D, A⟩ := g
  obtain ⟨hx, hb, hml, hr, hlk, hown, hts, hK, hN, hi, hA1, hA2, hc, hs, hR⟩ := G
  intro H locs ls hP hS hl
  exact lv_imul hx hb hd (k H locs ls hP hS hl)
theorem w_iand {g : Gm} {κ : ctx} {own : String} {cc : ByteArray} {nL : Nat} {ret : Option FieldType} {rm : Room} (G : OK g κ own cc nL ret rm) {pc : Nat} {lv : List (Nat × Value)} {rest : List Value} {L : Nat → va_E} {x y : Int32} (hd : decode cc pc = .ok (.iand, 1)) (k : J g κ nL (pc + 1) lv (.int (x &&& y) :: rest) L) : J g κ nL pc lv (.int y :: .int x :: rest) L := by
  obtain ⟨p, l, e, R, s, m, args, below, meth, c, cells, slots, Q, D, A⟩ := g
  obtain ⟨hx, hb, hml, hr, hlk, hown, hts, hK, hN, hi, hA1, hA2, hc, hs, hR⟩ := G
  intro H locs ls hP hS hl
  exact lv_iand hx hb hd (k H locs ls hP hS hl)
theorem w_ladd {g : Gm} {κ : ctx} {own : String} {cc : ByteArray} {nL : Nat} {ret : Option FieldType} {rm : Room} (G : OK g κ own cc nL ret rm) {pc : Nat} {lv : List (Nat × Value)} {rest : List Value} {L : Nat → va_E} {x y : Int64} (hd : decode cc pc = .ok (.ladd, 1)) (k : J g κ nL (pc + 1) lv (.long (x + y) :: rest) L) : J g κ nL pc lv (.long y :: .long x :: rest) L := by
  obtain ⟨p, l, e, R, s, m, args, below, meth, c, cells, slots, Q, D, A⟩ := g
  obtain ⟨hx, hb, hml, hr, hlk, hown, hts, hK, hN, hi, hA1, hA2, hc, hs, hR⟩ := G
  intro H locs ls hP hS hl
  exact lv_ladd hx hb hd (k H locs ls hP hS hl)
theorem w_lsub {g : Gm} {κ : ctx} {own : String} {cc : ByteArray} {nL : Nat} {ret : Option FieldType} {rm : Room} (G : OK g κ own cc nL ret rm) {pc : Nat} {lv : List (Nat × Value)} {rest : List Value} {L : Nat → va_E} {x y : Int64} (hd : decode cc pc = .ok (.lsub, 1)) (k : J g κ nL (pc + 1) lv (.long (x - y) :: rest) L) : J g κ nL pc lv (.long y :: .long x :: rest) L := by
  obtain ⟨p, l, e, R, s, m, args, below, meth, c, cells, slots, Q, D, A⟩ := g
  obtain ⟨hx, hb, hml, hr, hlk, hown, hts, hK, hN, hi, hA1, hA2, hc, hs, hR⟩ := G
  intro H locs ls hP hS hl
  exact lv_lsub hx hb hd (k H locs ls hP hS hl)
theorem w_lmul {g : Gm} {κ : ctx} {own : String} {cc : ByteArray} {nL : Nat} {ret : Option FieldType} {rm : Room} (G : OK g κ own cc nL ret rm) {pc : Nat} {lv : List (Nat × Value)} {rest : List Value} {L : Nat → va_E} {x y : Int64} (hd : decode cc pc = .ok (.lmul, 1)) (k : J g κ nL (pc + 1) lv (.long (x * y) :: rest) L) : J g κ nL pc lv (.long y :: .long x :: rest) L := by
  obtain ⟨p, l, e, R, s, m, args, below, meth, c, cells, slots, Q, D, A⟩ := g
  obtain ⟨hx, hb, hml, hr, hlk, hown, hts, hK, hN, hi, hA1, hA2, hc, hs, hR⟩ := G
  intro H locs ls hP hS hl
  exact lv_lmul hx hb hd (k H locs ls hP hS hl)
theorem w_lxor {g : Gm} {κ : ctx} {own : String} {cc : ByteArray} {nL : Nat} {ret : Option FieldType} {rm : Room} (G : OK g κ own cc nL ret rm) {pc : Nat} {lv : List (Nat × Value)} {rest : List Value} {L : Nat → va_E} {x y : Int64} (hd : decode cc pc = .ok (.lxor, 1)) (k : J g κ nL (pc + 1) lv (.long (x ^^^ y) :: rest) L) : J g κ nL pc lv (.long y :: .long x :: rest) L := by
  obtain ⟨p, l, e, R, s, m, args, below, meth, c, cells, slots, Q, D, A⟩ := g
  obtain ⟨hx, hb, hml, hr, hlk, hown, hts, hK, hN, hi, hA1, hA2, hc, hs, hR⟩ := G
  intro H locs ls hP hS hl
  exact lv_lxor hx hb hd (k H locs ls hP hS hl)
theorem w_idiv {g : Gm} {κ : ctx} {own : String} {cc : ByteArray} {nL : Nat} {ret : Option FieldType} {rm : Room} (G : OK g κ own cc nL ret rm) {pc : Nat} {lv : List (Nat × Value)} {rest : List Value} {L : Nat → va_E} {x y : Int32} (hd : decode cc pc = .ok (.idiv, 1)) (hne : ¬ y = 0) (k : J g κ nL (pc + 1) lv (.int (x / y) :: rest) L) : J g κ nL pc lv (.int y :: .int x :: rest) L := by
  obtain ⟨p, l, e, R, s, m, args, below, meth, c, cells, slots, Q, D, A⟩ := g
  obtain ⟨hx, hb, hml, hr, hlk, hown, hts, hK, hN, hi, hA1, hA2, hc, hs, hR⟩ := G
  intro H locs ls hP hS hl
  exact lv_idiv hx hb hd hne (k H locs ls hP hS hl)
theorem w_irem {g : Gm} {κ : ctx} {own : String} {cc : ByteArray} {nL : Nat} {ret : Option FieldType} {rm : Room} (G : OK g κ own cc nL ret rm) {pc : Nat} {lv : List (Nat × Value)} {rest : List Value} {L : Nat → va_E} {x y : Int32} (hd : decode cc pc = .ok (.irem, 1)) (hne : ¬ y = 0) (k : J g κ nL (pc + 1) lv (.int (x - x / y * y) :: rest) L) : J g κ nL pc lv (.int y :: .int x :: rest) L := by
  obtain ⟨p, l, e, R, s, m, args, below, meth, c, cells, slots, Q, D, A⟩ := g
  obtain ⟨hx, hb, hml, hr, hlk, hown, hts, hK, hN, hi, hA1, hA2, hc, hs, hR⟩ := G
  intro H locs ls hP hS hl
  exact lv_irem hx hb hd hne (k H locs ls hP hS hl)
theorem w_ldiv {g : Gm} {κ : ctx} {own : String} {cc : ByteArray} {nL : Nat} {ret : Option FieldType} {rm : Room} (G : OK g κ own cc nL ret rm) {pc : Nat} {lv : List (Nat × Value)} {rest : List Value} {L : Nat → va_E} {x y : Int64} (hd : decode cc pc = .ok (.ldiv, 1)) (hne : ¬ y = 0) (k : J g κ nL (pc + 1) lv (.long (x / y) :: rest) L) : J g κ nL pc lv (.long y :: .long x :: rest) L := by
  obtain ⟨p, l, e, R, s, m, args, below, meth, c, cells, slots, Q, D, A⟩ := g
  obtain ⟨hx, hb, hml, hr, hlk, hown, hts, hK, hN, hi, hA1, hA2, hc, hs, hR⟩ := G
  intro H locs ls hP hS hl
  exact lv_ldiv hx hb hd hne (k H locs ls hP hS hl)
theorem w_lrem {g : Gm} {κ : ctx} {own : String} {cc : ByteArray} {nL : Nat} {ret : Option FieldType} {rm : Room} (G : OK g κ own cc nL ret rm) {pc : Nat} {lv : List (Nat × Value)} {rest : List Value} {L : Nat → va_E} {x y : Int64} (hd : decode cc pc = .ok (.lrem, 1)) (hne : ¬ y = 0) (k : J g κ nL (pc + 1) lv (.long (x - x / y * y) :: rest) L) : J g κ nL pc lv (.long y :: .long x :: rest) L := by
  obtain ⟨p, l, e, R, s, m, args, below, meth, c, cells, slots, Q, D, A⟩ := g
  obtain ⟨hx, hb, hml, hr, hlk, hown, hts, hK, hN, hi, hA1, hA2, hc, hs, hR⟩ := G
  intro H locs ls hP hS hl
  exact lv_lrem hx hb hd hne (k H locs ls hP hS hl)
theorem w_ineg {g : Gm} {κ : ctx} {own : String} {cc : ByteArray} {nL : Nat} {ret : Option FieldType} {rm : Room} (G : OK g κ own cc nL ret rm) {pc : Nat} {lv : List (Nat × Value)} {rest : List Value} {L : Nat → va_E} {x : Int32} (hd : decode cc pc = .ok (.ineg, 1)) (k : J g κ nL (pc + 1) lv (.int (-x) :: rest) L) : J g κ nL pc lv (.int x :: rest) L := by
  obtain ⟨p, l, e, R, s, m, args, below, meth, c, cells, slots, Q, D, A⟩ := g
  obtain ⟨hx, hb, hml, hr, hlk, hown, hts, hK, hN, hi, hA1, hA2, hc, hs, hR⟩ := G
  intro H locs ls hP hS hl
  exact lv_ineg hx hb hd (k H locs ls hP hS hl)
theorem w_lneg {g : Gm} {κ : ctx} {own : String} {cc : ByteArray} {nL : Nat} {ret : Option FieldType} {rm : Room} (G : OK g κ own cc nL ret rm) {pc : Nat} {lv : List (Nat × Value)} {rest : List Value} {L : Nat → va_E} {x : Int64} (hd : decode cc pc = .ok (.lneg, 1)) (k : J g κ nL (pc + 1) lv (.long (-x) :: rest) L) : J g κ nL pc lv (.long x :: rest) L := by
  obtain ⟨p, l, e, R, s, m, args, below, meth, c, cells, slots, Q, D, A⟩ := g
  obtain ⟨hx, hb, hml, hr, hlk, hown, hts, hK, hN, hi, hA1, hA2, hc, hs, hR⟩ := G
  intro H locs ls hP hS hl
  exact lv_lneg hx hb hd (k H locs ls hP hS hl)
theorem w_i2l {g : Gm} {κ : ctx} {own : String} {cc : ByteArray} {nL : Nat} {ret : Option FieldType} {rm : Room} (G : OK g κ own cc nL ret rm) {pc : Nat} {lv : List (Nat × Value)} {rest : List Value} {L : Nat → va_E} {x : Int32} (hd : decode cc pc = .ok (.i2l, 1)) (k : J g κ nL (pc + 1) lv (.long x.toInt64 :: rest) L) : J g κ nL pc lv (.int x :: rest) L := by
  obtain ⟨p, l, e, R, s, m, args, below, meth, c, cells, slots, Q, D, A⟩ := g
  obtain ⟨hx, hb, hml, hr, hlk, hown, hts, hK, hN, hi, hA1, hA2, hc, hs, hR⟩ := G
  intro H locs ls hP hS hl
  exact lv_i2l hx hb hd rfl (k H locs ls hP hS hl)
theorem w_l2i {g : Gm} {κ : ctx} {own : String} {cc : ByteArray} {nL : Nat} {ret : Option FieldType} {rm : Room} (G : OK g κ own cc nL ret rm) {pc : Nat} {lv : List (Nat × Value)} {rest : List Value} {L : Nat → va_E} {x : Int64} (hd : decode cc pc = .ok (.l2i, 1)) (k : J g κ nL (pc + 1) lv (.int x.toInt32 :: rest) L) : J g κ nL pc lv (.long x :: rest) L := by
  obtain ⟨p, l, e, R, s, m, args, below, meth, c, cells, slots, Q, D, A⟩ := g
  obtain ⟨hx, hb, hml, hr, hlk, hown, hts, hK, hN, hi, hA1, hA2, hc, hs, hR⟩ := G
  intro H locs ls hP hS hl
  exact lv_l2i hx hb hd rfl (k H locs ls hP hS hl)
theorem w_dup {g : Gm} {κ : ctx} {own : String} {cc : ByteArray} {nL : Nat} {ret : Option FieldType} {rm : Room} (G : OK g κ own cc nL ret rm) {pc : Nat} {lv : List (Nat × Value)} {rest : List Value} {L : Nat → va_E} {v : Value} (hd : decode cc pc = .ok (.dup, 1)) (hc1 : v.category = 1) (k : J g κ nL (pc + 1) lv (v :: v :: rest) L) : J g κ nL pc lv (v :: rest) L := by
  obtain ⟨p, l, e, R, s, m, args, below, meth, c, cells, slots, Q, D, A⟩ := g
  obtain ⟨hx, hb, hml, hr, hlk, hown, hts, hK, hN, hi, hA1, hA2, hc, hs, hR⟩ := G
  intro H locs ls hP hS hl
  exact lv_dup hx hb hd hc1 (k H locs ls hP hS hl)
theorem w_dup2_2 {g : Gm} {κ : ctx} {own : String} {cc : ByteArray} {nL : Nat} {ret : Option FieldType} {rm : Room} (G : OK g κ own cc nL ret rm) {pc : Nat} {lv : List (Nat × Value)} {rest : List Value} {L : Nat → va_E} {v : Value} (hd : decode cc pc = .ok (.dup2, 1)) (hc1 : v.category = 2) (k : J g κ nL (pc + 1) lv (v :: v :: rest) L) : J g κ nL pc lv (v :: rest) L := by
  obtain ⟨p, l, e, R, s, m, args, below, meth, c, cells, slots, Q, D, A⟩ := g
  obtain ⟨hx, hb, hml, hr, hlk, hown, hts, hK, hN, hi, hA1, hA2, hc, hs, hR⟩ := G
  intro H locs ls hP hS hl
  exact lv_dup2_2 hx hb hd hc1 (k H locs ls hP hS hl)
theorem w_dup2_11 {g : Gm} {κ : ctx} {own : String} {cc : ByteArray} {nL : Nat} {ret : Option FieldType} {rm : Room} (G : OK g κ own cc nL ret rm) {pc : Nat} {lv : List (Nat × Value)} {rest : List Value} {L : Nat → va_E} {v w : Value} (hd : decode cc pc = .ok (.dup2, 1)) (hc1 : v.category = 1) (hc2 : w.category = 1) (k : J g κ nL (pc + 1) lv (v :: w :: v :: w :: rest) L) : J g κ nL pc lv (v :: w :: rest) L := by
  obtain ⟨p, l, e, R, s, m, args, below, meth, c, cells, slots, Q, D, A⟩ := g
  obtain ⟨hx, hb, hml, hr, hlk, hown, hts, hK, hN, hi, hA1, hA2, hc, hs, hR⟩ := G
  intro H locs ls hP hS hl
  exact lv_dup2_11 hx hb hd hc1 hc2 (k H locs ls hP hS hl)
theorem w_goto {g : Gm} {κ : ctx} {own : String} {cc : ByteArray} {nL : Nat} {ret : Option FieldType} {rm : Room} (G : OK g κ own cc nL ret rm) {pc : Nat} {lv : List (Nat × Value)} {rest : List Value} {L : Nat → va_E} {off : Int} {tgt : Nat} (hd : decode cc pc = .ok (.goto off, 3)) (ht : (pc : Int) + off = (tgt : Int)) (k : J g κ nL tgt lv rest L) : J g κ nL pc lv rest L := by
  obtain ⟨p, l, e, R, s, m, args, below, meth, c, cells, slots, Q, D, A⟩ := g
  obtain ⟨hx, hb, hml, hr, hlk, hown, hts, hK, hN, hi, hA1, hA2, hc, hs, hR⟩ := G
  intro H locs ls hP hS hl
  exact lv_goto hx hb hd ht (k H locs ls hP hS hl)
theorem w_if_eq {g : Gm} {κ : ctx} {own : String} {cc : ByteArray} {nL : Nat} {ret : Option FieldType} {rm : Room} (G : OK g κ own cc nL ret rm) {pc : Nat} {lv : List (Nat × Value)} {rest : List Value} {L : Nat → va_E} {x : Int32} {off : Int} {tgt : Nat} (hd : decode cc pc = .ok (.ifCond .eq off, 3)) (ht : (pc : Int) + off = (tgt : Int)) (kt : x = 0 → J g κ nL tgt lv rest L) (kf : ¬ (x = 0) → J g κ nL (pc + 3) lv rest L) : J g κ nL pc lv (.int x :: rest) L := by
  obtain ⟨p, l, e, R, s, m, args, below, meth, c, cells, slots, Q, D, A⟩ := g
  obtain ⟨hx, hb, hml, hr, hlk, hown, hts, hK, hN, hi, hA1, hA2, hc, hs, hR⟩ := G
  intro H locs ls hP hS hl
  exact lv_if_eq hx hb hd ht (fun q => kt q H locs ls hP hS hl) (fun q => kf q H locs ls hP hS hl)
theorem w_if_lt {g : Gm} {κ : ctx} {own : String} {cc : ByteArray} {nL : Nat} {ret : Option FieldType} {rm : Room} (G : OK g κ own cc nL ret rm) {pc : Nat} {lv : List (Nat × Value)} {rest : List Value} {L : Nat → va_E} {x : Int32} {off : Int} {tgt : Nat} (hd : decode cc pc = .ok (.ifCond .lt off, 3)) (ht : (pc : Int) + off = (tgt : Int)) (kt : x < 0 → J g κ nL tgt lv rest L) (kf : ¬ (x < 0) → J g κ nL (pc + 3) lv rest L) : J g κ nL pc lv (.int x :: rest) L := by
  obtain ⟨p, l, e, R, s, m, args, below, meth, c, cells, slots, Q, D, A⟩ := g
  obtain ⟨hx, hb, hml, hr, hlk, hown, hts, hK, hN, hi, hA1, hA2, hc, hs, hR⟩ := G
  intro H locs ls hP hS hl
  exact lv_if_lt hx hb hd ht (fun q => kt q H locs ls hP hS hl) (fun q => kf q H locs ls hP hS hl)
theorem w_if_ge {g : Gm} {κ : ctx} {own : String} {cc : ByteArray} {nL : Nat} {ret : Option FieldType} {rm : Room} (G : OK g κ own cc nL ret rm) {pc : Nat} {lv : List (Nat × Value)} {rest : List Value} {L : Nat → va_E} {x : Int32} {off : Int} {tgt : Nat} (hd : decode cc pc = .ok (.ifCond .ge off, 3)) (ht : (pc : Int) + off = (tgt : Int)) (kt : 0 ≤ x → J g κ nL tgt lv rest L) (kf : ¬ (0 ≤ x) → J g κ nL (pc + 3) lv rest L) : J g κ nL pc lv (.int x :: rest) L := by
  obtain ⟨p, l, e, R, s, m, args, below, meth, c, cells, slots, Q, D, A⟩ := g
  obtain ⟨hx, hb, hml, hr, hlk, hown, hts, hK, hN, hi, hA1, hA2, hc, hs, hR⟩ := G
  intro H locs ls hP hS hl
  exact lv_if_ge hx hb hd ht (fun q => kt q H locs ls hP hS hl) (fun q => kf q H locs ls hP hS hl)
theorem w_if_gt {g : Gm} {κ : ctx} {own : String} {cc : ByteArray} {nL : Nat} {ret : Option FieldType} {rm : Room} (G : OK g κ own cc nL ret rm) {pc : Nat} {lv : List (Nat × Value)} {rest : List Value} {L : Nat → va_E} {x : Int32} {off : Int} {tgt : Nat} (hd : decode cc pc = .ok (.ifCond .gt off, 3)) (ht : (pc : Int) + off = (tgt : Int)) (kt : 0 < x → J g κ nL tgt lv rest L) (kf : ¬ (0 < x) → J g κ nL (pc + 3) lv rest L) : J g κ nL pc lv (.int x :: rest) L := by
  obtain ⟨p, l, e, R, s, m, args, below, meth, c, cells, slots, Q, D, A⟩ := g
  obtain ⟨hx, hb, hml, hr, hlk, hown, hts, hK, hN, hi, hA1, hA2, hc, hs, hR⟩ := G
  intro H locs ls hP hS hl
  exact lv_if_gt hx hb hd ht (fun q => kt q H locs ls hP hS hl) (fun q => kf q H locs ls hP hS hl)
theorem w_if_le {g : Gm} {κ : ctx} {own : String} {cc : ByteArray} {nL : Nat} {ret : Option FieldType} {rm : Room} (G : OK g κ own cc nL ret rm) {pc : Nat} {lv : List (Nat × Value)} {rest : List Value} {L : Nat → va_E} {x : Int32} {off : Int} {tgt : Nat} (hd : decode cc pc = .ok (.ifCond .le off, 3)) (ht : (pc : Int) + off = (tgt : Int)) (kt : x ≤ 0 → J g κ nL tgt lv rest L) (kf : ¬ (x ≤ 0) → J g κ nL (pc + 3) lv rest L) : J g κ nL pc lv (.int x :: rest) L := by
  obtain ⟨p, l, e, R, s, m, args, below, meth, c, cells, slots, Q, D, A⟩ := g
  obtain ⟨hx, hb, hml, hr, hlk, hown, hts, hK, hN, hi, hA1, hA2, hc, hs, hR⟩ := G
  intro H locs ls hP hS hl
  exact lv_if_le hx hb hd ht (fun q => kt q H locs ls hP hS hl) (fun q => kf q H locs ls hP hS hl)
theorem w_if_ne {g : Gm} {κ : ctx} {own : String} {cc : ByteArray} {nL : Nat} {ret : Option FieldType} {rm : Room} (G : OK g κ own cc nL ret rm) {pc : Nat} {lv : List (Nat × Value)} {rest : List Value} {L : Nat → va_E} {x : Int32} {off : Int} {tgt : Nat} (hd : decode cc pc = .ok (.ifCond .ne off, 3)) (ht : (pc : Int) + off = (tgt : Int)) (kt : x = 0 → J g κ nL (pc + 3) lv rest L) (kf : ¬ (x = 0) → J g κ nL tgt lv rest L) : J g κ nL pc lv (.int x :: rest) L := by
  obtain ⟨p, l, e, R, s, m, args, below, meth, c, cells, slots, Q, D, A⟩ := g
  obtain ⟨hx, hb, hml, hr, hlk, hown, hts, hK, hN, hi, hA1, hA2, hc, hs, hR⟩ := G
  intro H locs ls hP hS hl
  exact lv_if_ne hx hb hd ht (fun q => kf q H locs ls hP hS hl) (fun q => kt q H locs ls hP hS hl)
theorem w_icmp_eq {g : Gm} {κ : ctx} {own : String} {cc : ByteArray} {nL : Nat} {ret : Option FieldType} {rm : Room} (G : OK g κ own cc nL ret rm) {pc : Nat} {lv : List (Nat × Value)} {rest : List Value} {L : Nat → va_E} {x y : Int32} {off : Int} {tgt : Nat} (hd : decode cc pc = .ok (.if_icmp .eq off, 3)) (ht : (pc : Int) + off = (tgt : Int)) (kt : x = y → J g κ nL tgt lv rest L) (kf : ¬ (x = y) → J g κ nL (pc + 3) lv rest L) : J g κ nL pc lv (.int y :: .int x :: rest) L := by
  obtain ⟨p, l, e, R, s, m, args, below, meth, c, cells, slots, Q, D, A⟩ := g
  obtain ⟨hx, hb, hml, hr, hlk, hown, hts, hK, hN, hi, hA1, hA2, hc, hs, hR⟩ := G
  intro H locs ls hP hS hl
  exact lv_icmp_eq hx hb hd ht (fun q => kt q H locs ls hP hS hl) (fun q => kf q H locs ls hP hS hl)
theorem w_icmp_lt {g : Gm} {κ : ctx} {own : String} {cc : ByteArray} {nL : Nat} {ret : Option FieldType} {rm : Room} (G : OK g κ own cc nL ret rm) {pc : Nat} {lv : List (Nat × Value)} {rest : List Value} {L : Nat → va_E} {x y : Int32} {off : Int} {tgt : Nat} (hd : decode cc pc = .ok (.if_icmp .lt off, 3)) (ht : (pc : Int) + off = (tgt : Int)) (kt : x < y → J g κ nL tgt lv rest L) (kf : ¬ (x < y) → J g κ nL (pc + 3) lv rest L) : J g κ nL pc lv (.int y :: .int x :: rest) L := by
  obtain ⟨p, l, e, R, s, m, args, below, meth, c, cells, slots, Q, D, A⟩ := g
  obtain ⟨hx, hb, hml, hr, hlk, hown, hts, hK, hN, hi, hA1, hA2, hc, hs, hR⟩ := G
  intro H locs ls hP hS hl
  exact lv_icmp_lt hx hb hd ht (fun q => kt q H locs ls hP hS hl) (fun q => kf q H locs ls hP hS hl)
theorem w_icmp_ge {g : Gm} {κ : ctx} {own : String} {cc : ByteArray} {nL : Nat} {ret : Option FieldType} {rm : Room} (G : OK g κ own cc nL ret rm) {pc : Nat} {lv : List (Nat × Value)} {rest : List Value} {L : Nat → va_E} {x y : Int32} {off : Int} {tgt : Nat} (hd : decode cc pc = .ok (.if_icmp .ge off, 3)) (ht : (pc : Int) + off = (tgt : Int)) (kt : y ≤ x → J g κ nL tgt lv rest L) (kf : ¬ (y ≤ x) → J g κ nL (pc + 3) lv rest L) : J g κ nL pc lv (.int y :: .int x :: rest) L := by
  obtain ⟨p, l, e, R, s, m, args, below, meth, c, cells, slots, Q, D, A⟩ := g
  obtain ⟨hx, hb, hml, hr, hlk, hown, hts, hK, hN, hi, hA1, hA2, hc, hs, hR⟩ := G
  intro H locs ls hP hS hl
  exact lv_icmp_ge hx hb hd ht (fun q => kt q H locs ls hP hS hl) (fun q => kf q H locs ls hP hS hl)
theorem w_icmp_gt {g : Gm} {κ : ctx} {own : String} {cc : ByteArray} {nL : Nat} {ret : Option FieldType} {rm : Room} (G : OK g κ own cc nL ret rm) {pc : Nat} {lv : List (Nat × Value)} {rest : List Value} {L : Nat → va_E} {x y : Int32} {off : Int} {tgt : Nat} (hd : decode cc pc = .ok (.if_icmp .gt off, 3)) (ht : (pc : Int) + off = (tgt : Int)) (kt : y < x → J g κ nL tgt lv rest L) (kf : ¬ (y < x) → J g κ nL (pc + 3) lv rest L) : J g κ nL pc lv (.int y :: .int x :: rest) L := by
  obtain ⟨p, l, e, R, s, m, args, below, meth, c, cells, slots, Q, D, A⟩ := g
  obtain ⟨hx, hb, hml, hr, hlk, hown, hts, hK, hN, hi, hA1, hA2, hc, hs, hR⟩ := G
  intro H locs ls hP hS hl
  exact lv_icmp_gt hx hb hd ht (fun q => kt q H locs ls hP hS hl) (fun q => kf q H locs ls hP hS hl)
theorem w_icmp_le {g : Gm} {κ : ctx} {own : String} {cc : ByteArray} {nL : Nat} {ret : Option FieldType} {rm : Room} (G : OK g κ own cc nL ret rm) {pc : Nat} {lv : List (Nat × Value)} {rest : List Value} {L : Nat → va_E} {x y : Int32} {off : Int} {tgt : Nat} (hd : decode cc pc = .ok (.if_icmp .le off, 3)) (ht : (pc : Int) + off = (tgt : Int)) (kt : x ≤ y → J g κ nL tgt lv rest L) (kf : ¬ (x ≤ y) → J g κ nL (pc + 3) lv rest L) : J g κ nL pc lv (.int y :: .int x :: rest) L := by
  obtain ⟨p, l, e, R, s, m, args, below, meth, c, cells, slots, Q, D, A⟩ := g
  obtain ⟨hx, hb, hml, hr, hlk, hown, hts, hK, hN, hi, hA1, hA2, hc, hs, hR⟩ := G
  intro H locs ls hP hS hl
  exact lv_icmp_le hx hb hd ht (fun q => kt q H locs ls hP hS hl) (fun q => kf q H locs ls hP hS hl)
theorem w_icmp_ne {g : Gm} {κ : ctx} {own : String} {cc : ByteArray} {nL : Nat} {ret : Option FieldType} {rm : Room} (G : OK g κ own cc nL ret rm) {pc : Nat} {lv : List (Nat × Value)} {rest : List Value} {L : Nat → va_E} {x y : Int32} {off : Int} {tgt : Nat} (hd : decode cc pc = .ok (.if_icmp .ne off, 3)) (ht : (pc : Int) + off = (tgt : Int)) (kt : x = y → J g κ nL (pc + 3) lv rest L) (kf : ¬ (x = y) → J g κ nL tgt lv rest L) : J g κ nL pc lv (.int y :: .int x :: rest) L := by
  obtain ⟨p, l, e, R, s, m, args, below, meth, c, cells, slots, Q, D, A⟩ := g
  obtain ⟨hx, hb, hml, hr, hlk, hown, hts, hK, hN, hi, hA1, hA2, hc, hs, hR⟩ := G
  intro H locs ls hP hS hl
  exact lv_icmp_ne hx hb hd ht (fun q => kf q H locs ls hP hS hl) (fun q => kt q H locs ls hP hS hl)
theorem w_lc_eq {g : Gm} {κ : ctx} {own : String} {cc : ByteArray} {nL : Nat} {ret : Option FieldType} {rm : Room} (G : OK g κ own cc nL ret rm) {pc : Nat} {lv : List (Nat × Value)} {rest : List Value} {L : Nat → va_E} {x y : Int64} {off : Int} {tgt : Nat} (hd : decode cc pc = .ok (.lcmp, 1)) (hd2 : decode cc (pc + 1) = .ok (.ifCond .eq off, 3)) (ht : ((pc + 1 : Nat) : Int) + off = (tgt : Int)) (kt : x = y → J g κ nL tgt lv rest L) (kf : ¬ (x = y) → J g κ nL (pc + 4) lv rest L) : J g κ nL pc lv (.long y :: .long x :: rest) L := by
  obtain ⟨p, l, e, R, s, m, args, below, meth, c, cells, slots, Q, D, A⟩ := g
  obtain ⟨hx, hb, hml, hr, hlk, hown, hts, hK, hN, hi, hA1, hA2, hc, hs, hR⟩ := G
  intro H locs ls hP hS hl
  refine W.lcmp hx hb hd ?_
  exact lv_if_eq hx hb hd2 ht (fun q => kt ((lg_cmp_eq x y).mp q) H locs ls hP hS hl) (fun q => kf (fun z => q ((lg_cmp_eq x y).mpr z)) H locs ls hP hS hl)
theorem w_lc_lt {g : Gm} {κ : ctx} {own : String} {cc : ByteArray} {nL : Nat} {ret : Option FieldType} {rm : Room} (G : OK g κ own cc nL ret rm) {pc : Nat} {lv : List (Nat × Value)} {rest : List Value} {L : Nat → va_E} {x y : Int64} {off : Int} {tgt : Nat} (hd : decode cc pc = .ok (.lcmp, 1)) (hd2 : decode cc (pc + 1) = .ok (.ifCond .lt off, 3)) (ht : ((pc + 1 : Nat) : Int) + off = (tgt : Int)) (kt : x < y → J g κ nL tgt lv rest L) (kf : ¬ (x < y) → J g κ nL (pc + 4) lv rest L) : J g κ nL pc lv (.long y :: .long x :: rest) L := by
  obtain ⟨p, l, e, R, s, m, args, below, meth, c, cells, slots, Q, D, A⟩ := g
  obtain ⟨hx, hb, hml, hr, hlk, hown, hts, hK, hN, hi, hA1, hA2, hc, hs, hR⟩ := G
  intro H locs ls hP hS hl
  refine W.lcmp hx hb hd ?_
  exact lv_if_lt hx hb hd2 ht (fun q => kt ((lg_cmp_lt x y).mp q) H locs ls hP hS hl) (fun q => kf (fun z => q ((lg_cmp_lt x y).mpr z)) H locs ls hP hS hl)
theorem w_lc_ge {g : Gm} {κ : ctx} {own : String} {cc : ByteArray} {nL : Nat} {ret : Option FieldType} {rm : Room} (G : OK g κ own cc nL ret rm) {pc : Nat} {lv : List (Nat × Value)} {rest : List Value} {L : Nat → va_E} {x y : Int64} {off : Int} {tgt : Nat} (hd : decode cc pc = .ok (.lcmp, 1)) (hd2 : decode cc (pc + 1) = .ok (.ifCond .ge off, 3)) (ht : ((pc + 1 : Nat) : Int) + off = (tgt : Int)) (kt : y ≤ x → J g κ nL tgt lv rest L) (kf : ¬ (y ≤ x) → J g κ nL (pc + 4) lv rest L) : J g κ nL pc lv (.long y :: .long x :: rest) L := by
  obtain ⟨p, l, e, R, s, m, args, below, meth, c, cells, slots, Q, D, A⟩ := g
  obtain ⟨hx, hb, hml, hr, hlk, hown, hts, hK, hN, hi, hA1, hA2, hc, hs, hR⟩ := G
  intro H locs ls hP hS hl
  refine W.lcmp hx hb hd ?_
  exact lv_if_ge hx hb hd2 ht (fun q => kt ((lg_cmp_ge x y).mp q) H locs ls hP hS hl) (fun q => kf (fun z => q ((lg_cmp_ge x y).mpr z)) H locs ls hP hS hl)
theorem w_lc_gt {g : Gm} {κ : ctx} {own : String} {cc : ByteArray} {nL : Nat} {ret : Option FieldType} {rm : Room} (G : OK g κ own cc nL ret rm) {pc : Nat} {lv : List (Nat × Value)} {rest : List Value} {L : Nat → va_E} {x y : Int64} {off : Int} {tgt : Nat} (hd : decode cc pc = .ok (.lcmp, 1)) (hd2 : decode cc (pc + 1) = .ok (.ifCond .gt off, 3)) (ht : ((pc + 1 : Nat) : Int) + off = (tgt : Int)) (kt : y < x → J g κ nL tgt lv rest L) (kf : ¬ (y < x) → J g κ nL (pc + 4) lv rest L) : J g κ nL pc lv (.long y :: .long x :: rest) L := by
  obtain ⟨p, l, e, R, s, m, args, below, meth, c, cells, slots, Q, D, A⟩ := g
  obtain ⟨hx, hb, hml, hr, hlk, hown, hts, hK, hN, hi, hA1, hA2, hc, hs, hR⟩ := G
  intro H locs ls hP hS hl
  refine W.lcmp hx hb hd ?_
  exact lv_if_gt hx hb hd2 ht (fun q => kt ((lg_cmp_gt x y).mp q) H locs ls hP hS hl) (fun q => kf (fun z => q ((lg_cmp_gt x y).mpr z)) H locs ls hP hS hl)
theorem w_lc_le {g : Gm} {κ : ctx} {own : String} {cc : ByteArray} {nL : Nat} {ret : Option FieldType} {rm : Room} (G : OK g κ own cc nL ret rm) {pc : Nat} {lv : List (Nat × Value)} {rest : List Value} {L : Nat → va_E} {x y : Int64} {off : Int} {tgt : Nat} (hd : decode cc pc = .ok (.lcmp, 1)) (hd2 : decode cc (pc + 1) = .ok (.ifCond .le off, 3)) (ht : ((pc + 1 : Nat) : Int) + off = (tgt : Int)) (kt : x ≤ y → J g κ nL tgt lv rest L) (kf : ¬ (x ≤ y) → J g κ nL (pc + 4) lv rest L) : J g κ nL pc lv (.long y :: .long x :: rest) L := by
  obtain ⟨p, l, e, R, s, m, args, below, meth, c, cells, slots, Q, D, A⟩ := g
  obtain ⟨hx, hb, hml, hr, hlk, hown, hts, hK, hN, hi, hA1, hA2, hc, hs, hR⟩ := G
  intro H locs ls hP hS hl
  refine W.lcmp hx hb hd ?_
  exact lv_if_le hx hb hd2 ht (fun q => kt ((lg_cmp_le x y).mp q) H locs ls hP hS hl) (fun q => kf (fun z => q ((lg_cmp_le x y).mpr z)) H locs ls hP hS hl)
theorem w_lc_ne {g : Gm} {κ : ctx} {own : String} {cc : ByteArray} {nL : Nat} {ret : Option FieldType} {rm : Room} (G : OK g κ own cc nL ret rm) {pc : Nat} {lv : List (Nat × Value)} {rest : List Value} {L : Nat → va_E} {x y : Int64} {off : Int} {tgt : Nat} (hd : decode cc pc = .ok (.lcmp, 1)) (hd2 : decode cc (pc + 1) = .ok (.ifCond .ne off, 3)) (ht : ((pc + 1 : Nat) : Int) + off = (tgt : Int)) (kt : x = y → J g κ nL (pc + 4) lv rest L) (kf : ¬ (x = y) → J g κ nL tgt lv rest L) : J g κ nL pc lv (.long y :: .long x :: rest) L := by
  obtain ⟨p, l, e, R, s, m, args, below, meth, c, cells, slots, Q, D, A⟩ := g
  obtain ⟨hx, hb, hml, hr, hlk, hown, hts, hK, hN, hi, hA1, hA2, hc, hs, hR⟩ := G
  intro H locs ls hP hS hl
  refine W.lcmp hx hb hd ?_
  exact lv_if_ne hx hb hd2 ht (fun q => kf (fun z => q ((lg_cmp_eq x y).mpr z)) H locs ls hP hS hl) (fun q => kt ((lg_cmp_eq x y).mp q) H locs ls hP hS hl)
theorem w_ldc {g : Gm} {κ : ctx} {own : String} {cc : ByteArray} {nL : Nat} {ret : Option FieldType} {rm : Room} (G : OK g κ own cc nL ret rm) {pc : Nat} {lv : List (Nat × Value)} {rest : List Value} {L : Nat → va_E} {index : Nat} {v : Int32} (hw : Cond.constant own index v ∈ utbl) (hd : decode cc pc = .ok (.ldc index, 2)) (k : J g κ nL (pc + 2) lv (.int v :: rest) L) : J g κ nL pc lv (rest) L := by
  obtain ⟨p, l, e, R, s, m, args, below, meth, c, cells, slots, Q, D, A⟩ := g
  obtain ⟨hx, hb, hml, hr, hlk, hown, hts, hK, hN, hi, hA1, hA2, hc, hs, hR⟩ := G
  intro H locs ls hP hS hl
  exact lv_ldc hx hb hown (hts _ hw) hd (k H locs ls hP hS hl)
theorem w_ldc2 {g : Gm} {κ : ctx} {own : String} {cc : ByteArray} {nL : Nat} {ret : Option FieldType} {rm : Room} (G : OK g κ own cc nL ret rm) {pc : Nat} {lv : List (Nat × Value)} {rest : List Value} {L : Nat → va_E} {index : Nat} {v : Int64} (hw : Cond.constantLong own index v ∈ utbl) (hd : decode cc pc = .ok (.ldc2_w index, 3)) (k : J g κ nL (pc + 3) lv (.long v :: rest) L) : J g κ nL pc lv (rest) L := by
  obtain ⟨p, l, e, R, s, m, args, below, meth, c, cells, slots, Q, D, A⟩ := g
  obtain ⟨hx, hb, hml, hr, hlk, hown, hts, hK, hN, hi, hA1, hA2, hc, hs, hR⟩ := G
  intro H locs ls hP hS hl
  exact lv_ldc2 hx hb hown (hts _ hw) hd (k H locs ls hP hS hl)
theorem w_iald {g : Gm} {κ : ctx} {own : String} {cc : ByteArray} {nL : Nat} {ret : Option FieldType} {rm : Room} (G : OK g κ own cc nL ret rm) {pc : Nat} {lv : List (Nat × Value)} {rest : List Value} {L : Nat → va_E} (q : Nat) (hq : q < NW) {n : Nat} {f : Nat → Int32} (he : L q = .inl (κ.2.1, n, .inl f)) {i : Int32} (hin : vp_in i n) (hd : decode cc pc = .ok (.iaload, 1)) (k : J g κ nL (pc + 1) lv (.int (f i.toNatClampNeg) :: rest) L) : J g κ nL pc lv (.int i :: .ref (κ.1 q) :: rest) L := by
  obtain ⟨p, l, e, R, s, m, args, below, meth, c, cells, slots, Q, D, A⟩ := g
  obtain ⟨hx, hb, hml, hr, hlk, hown, hts, hK, hN, hi, hA1, hA2, hc, hs, hR⟩ := G
  intro H locs ls hP hS hl
  exact va_iald hx hb hK hP q 0 (by rw [wl_get hq, he]) rfl hin hd (k H locs ls hP hS hl)
theorem w_lald {g : Gm} {κ : ctx} {own : String} {cc : ByteArray} {nL : Nat} {ret : Option FieldType} {rm : Room} (G : OK g κ own cc nL ret rm) {pc : Nat} {lv : List (Nat × Value)} {rest : List Value} {L : Nat → va_E} (q : Nat) (hq : q < NW) {n : Nat} {f : Nat → Int64} (he : L q = .inl (κ.2.2.1, n, .inr (.inl f))) {i : Int32} (hin : vp_in i n) (hd : decode cc pc = .ok (.laload, 1)) (k : J g κ nL (pc + 1) lv (.long (f i.toNatClampNeg) :: rest) L) : J g κ nL pc lv (.int i :: .ref (κ.1 q) :: rest) L := by
  obtain ⟨p, l, e, R, s, m, args, below, meth, c, cells, slots, Q, D, A⟩ := g
  obtain ⟨hx, hb, hml, hr, hlk, hown, hts, hK, hN, hi, hA1, hA2, hc, hs, hR⟩ := G
  intro H locs ls hP hS hl
  exact va_lald hx hb hK hP q 1 (by rw [wl_get hq, he]) rfl hin hd (k H locs ls hP hS hl)
theorem w_iast {g : Gm} {κ : ctx} {own : String} {cc : ByteArray} {nL : Nat} {ret : Option FieldType} {rm : Room} (G : OK g κ own cc nL ret rm) {pc : Nat} {lv : List (Nat × Value)} {rest : List Value} {L : Nat → va_E} (q : Nat) (hq : q < NW) {n : Nat} {f : Nat → Int32} (he : L q = .inl (κ.2.1, n, .inl f)) {i x : Int32} (hin : vp_in i n) (hd : decode cc pc = .ok (.iastore, 1)) (k : J g κ nL (pc + 1) lv rest (va_up L q (.inl (κ.2.1, n, .inl (upd f i.toNatClampNeg x))))) : J g κ nL pc lv (.int x :: .int i :: .ref (κ.1 q) :: rest) L := by
  obtain ⟨p, l, e, R, s, m, args, below, meth, c, cells, slots, Q, D, A⟩ := g
  obtain ⟨hx, hb, hml, hr, hlk, hown, hts, hK, hN, hi, hA1, hA2, hc, hs, hR⟩ := G
  intro H locs ls hP hS hl
  refine va_iast hx hb hK hP (wl_D hi hA1) hS q 0 (by rw [wl_get hq, he]) rfl hin hd (fun H1 locs1 hP1 _ hS1 => ?_)
  rw [wl_set] at hP1
  exact k H1 locs1 ls hP1 hS1 hl
theorem w_last {g : Gm} {κ : ctx} {own : String} {cc : ByteArray} {nL : Nat} {ret : Option FieldType} {rm : Room} (G : OK g κ own cc nL ret rm) {pc : Nat} {lv : List (Nat × Value)} {rest : List Value} {L : Nat → va_E} (q : Nat) (hq : q < NW) {n : Nat} {f : Nat → Int64} (he : L q = .inl (κ.2.2.1, n, .inr (.inl f))) {i : Int32} {x : Int64} (hin : vp_in i n) (hd : decode cc pc = .ok (.lastore, 1)) (k : J g κ nL (pc + 1) lv rest (va_up L q (.inl (κ.2.2.1, n, .inr (.inl (vp_updL f i.toNatClampNeg x)))))) : J g κ nL pc lv (.long x :: .int i :: .ref (κ.1 q) :: rest) L := by
  obtain ⟨p, l, e, R, s, m, args, below, meth, c, cells, slots, Q, D, A⟩ := g
  obtain ⟨hx, hb, hml, hr, hlk, hown, hts, hK, hN, hi, hA1, hA2, hc, hs, hR⟩ := G
  intro H locs ls hP hS hl
  refine va_last hx hb hK hP (wl_D hi hA1) hS q 1 (by rw [wl_get hq, he]) rfl hin hd (fun H1 locs1 hP1 _ hS1 => ?_)
  rw [wl_set] at hP1
  exact k H1 locs1 ls hP1 hS1 hl
theorem w_aald {g : Gm} {κ : ctx} {own : String} {cc : ByteArray} {nL : Nat} {ret : Option FieldType} {rm : Room} (G : OK g κ own cc nL ret rm) {pc : Nat} {lv : List (Nat × Value)} {rest : List Value} {L : Nat → va_E} (q : Nat) (hq : q < NW) {n : Nat} {f : Nat → Option Nat} (he : L q = .inl (κ.2.2.2, n, .inr (.inr (.inr (.inr f))))) {i : Int32} {b : Nat} (hin : vp_in i n) (hf : f i.toNatClampNeg = some b) (hd : decode cc pc = .ok (.aaload, 1)) (k : J g κ nL (pc + 1) lv (.ref b :: rest) L) : J g κ nL pc lv (.int i :: .ref (κ.1 q) :: rest) L := by
  obtain ⟨p, l, e, R, s, m, args, below, meth, c, cells, slots, Q, D, A⟩ := g
  obtain ⟨hx, hb, hml, hr, hlk, hown, hts, hK, hN, hi, hA1, hA2, hc, hs, hR⟩ := G
  intro H locs ls hP hS hl
  have hlt : i.toNatClampNeg < n := Nat.not_le.mp fun z => hin (Or.inr z)
  have ha : (wl κ.1 L)[q]? = some (κ.1 q, .inl (κ.2.2.2, n, .inr (.inr (.inr (.inr f))))) := by rw [wl_get hq, he]
  have hcell := hP q _ ha
  refine W.aald (v := .ref b) (ty := .array .long) hx hb hcell ((hK.2 2 _ rfl).1 n (fun j => va_rf (f j))) rfl (fun z => by cases z) (by show ¬ (i < 0 ∨ (arrV _ _ _).slots.size ≤ _); rw [arrV_size]; exact hin) (by show (arrV _ _ _).slots[_]? = _; rw [arrV_read _ _ hlt, hf]; rfl) rfl rfl hd (k H locs ls hP hS hl)
theorem w_alen {g : Gm} {κ : ctx} {own : String} {cc : ByteArray} {nL : Nat} {ret : Option FieldType} {rm : Room} (G : OK g κ own cc nL ret rm) {pc : Nat} {lv : List (Nat × Value)} {rest : List Value} {L : Nat → va_E} (q : Nat) (hq : q < NW) {n : Nat} {f : (Nat → Int32) ⊕ (Nat → Int64) ⊕ (Nat → UInt32) ⊕ (Nat → UInt64) ⊕ (Nat → Option Nat)} (t : Nat) {ca : ClassId} {ty : FieldType} (he : L q = .inl (ca, n, f)) (ht : (tysOf κ)[t]? = some (ca, ty)) {v : Int32} (hv : Int32.ofNat n = v) (hd : decode cc pc = .ok (.arraylength, 1)) (k : J g κ nL (pc + 1) lv (.int v :: rest) L) : J g κ nL pc lv (.ref (κ.1 q) :: rest) L := by
  obtain ⟨p, l, e, R, s, m, args, below, meth, c, cells, slots, Q, D, A⟩ := g
  obtain ⟨hx, hb, hml, hr, hlk, hown, hts, hK, hN, hi, hA1, hA2, hc, hs, hR⟩ := G
  intro H locs ls hP hS hl
  exact va_alen hx hb hK hP q t (x := (n, f)) (by rw [wl_get hq, he]) ht hv hd (k H locs ls hP hS hl)
theorem w_get {g : Gm} {κ : ctx} {own : String} {cc : ByteArray} {nL : Nat} {ret : Option FieldType} {rm : Room} (G : OK g κ own cc nL ret rm) {pc : Nat} {lv : List (Nat × Value)} {rest : List Value} {L : Nat → va_E} (q : Nat) (hq : q < NW) {ci N index : Nat} {fs : List Value} {C : String} {T : u_T} (he : L q = .inr (ci, fs)) (hc1 : classes[ci]? = some (C, T, N)) (hw : ∀ w ∈ u_ws C T N, w ∈ utbl) (j : Nat) (hj : j < N) (hlk2 : Cond.fieldLink own index (T j).1 (T j).2.1 (T j).2.2.1 ∈ utbl) {v : Value} (hv : fs[j]? = some v) (hd : decode cc pc = .ok (.getfield index, 3)) (k : J g κ nL (pc + 3) lv (v :: rest) L) : J g κ nL pc lv (.ref (κ.1 q) :: rest) L := by
  obtain ⟨p, l, e, R, s, m, args, below, meth, c, cells, slots, Q, D, A⟩ := g
  obtain ⟨hx, hb, hml, hr, hlk, hown, hts, hK, hN, hi, hA1, hA2, hc, hs, hR⟩ := G
  intro H locs ls hP hS hl
  exact va_get hx hb hts hw hown hK hP q (by rw [wl_get hq, he]) hc1 j hj (hts _ hlk2) (fun _ z => z) hv hd (k H locs ls hP hS hl)
theorem w_put {g : Gm} {κ : ctx} {own : String} {cc : ByteArray} {nL : Nat} {ret : Option FieldType} {rm : Room} (G : OK g κ own cc nL ret rm) {pc : Nat} {lv : List (Nat × Value)} {rest : List Value} {L : Nat → va_E} (q : Nat) (hq : q < NW) {ci N index : Nat} {fs : List Value} {C : String} {T : u_T} (he : L q = .inr (ci, fs)) (hc1 : classes[ci]? = some (C, T, N)) (hw : ∀ w ∈ u_ws C T N, w ∈ utbl) (ty0 : Nat → FieldType) (hty : ∀ k, k < N → parseFieldDescriptor (T k).2.2.1 = some (ty0 k)) (hnm : ∀ a, a < N → ∀ b, b < N → a ≠ b → (T a).2.1 ≠ (T b).2.1) (j : Nat) (hj : j < N) (hlk2 : Cond.fieldLink own index (T j).1 (T j).2.1 (T j).2.2.1 ∈ utbl) (hfin : (T j).2.2.2 = false) {v : Value} (hn : narrow (ty0 j) v = v) (hfit : fits (ty0 j) v = true) (hl0 : j < fs.length) (hd : decode cc pc = .ok (.putfield index, 3)) (k : J g κ nL (pc + 3) lv rest (va_up L q (.inr (ci, fs.set j v)))) : J g κ nL pc lv (v :: .ref (κ.1 q) :: rest) L := by
  obtain ⟨p, l, e, R, s, m, args, below, meth, c, cells, slots, Q, D, A⟩ := g
  obtain ⟨hx, hb, hml, hr, hlk, hown, hts, hK, hN, hi, hA1, hA2, hc, hs, hR⟩ := G
  intro H locs ls hP hS hl
  refine va_put hx hb hts hw ty0 hty hnm hown hK hP (wl_D hi hA1) hS q (by rw [wl_get hq, he]) hc1 j hj (hts _ hlk2) (fun _ z => z) hfin (hty j hj) hn hfit hl0 hd (fun H1 locs1 hP1 _ hS1 => ?_)
  rw [wl_set] at hP1
  exact k H1 locs1 ls hP1 hS1 hl
theorem w_iret {g : Gm} {κ : ctx} {own : String} {cc : ByteArray} {nL : Nat}  {rm : Room} (G : OK g κ own cc nL (some .int) rm) {pc : Nat} {lv : List (Nat × Value)} {L : Nat → va_E} {v : Int32} (hd : decode cc pc = .ok (.ireturn, 1)) (F : Fn g κ (some (.int v)) L) : J g κ nL pc lv [.int v] L := by
  obtain ⟨p, l, e, R, s, m, args, below, meth, c, cells, slots, Q, D, A⟩ := g
  obtain ⟨hx, hb, hml, hr, hlk, hown, hts, hK, hN, hi, hA1, hA2, hc, hs, hR⟩ := G
  intro H locs ls hP hS hl
  have F : Q = _ := F
  subst F
  exact W.iret hx hb hr (fun t ht hW => ⟨⟨rfl, by rw [ht]; exact hP⟩, hS.F ht⟩) hS.2.2 hd
theorem w_lret {g : Gm} {κ : ctx} {own : String} {cc : ByteArray} {nL : Nat}  {rm : Room} (G : OK g κ own cc nL (some .long) rm) {pc : Nat} {lv : List (Nat × Value)} {L : Nat → va_E} {v : Int64} (hd : decode cc pc = .ok (.lreturn, 1)) (F : Fn g κ (some (.long v)) L) : J g κ nL pc lv [.long v] L := by
  obtain ⟨p, l, e, R, s, m, args, below, meth, c, cells, slots, Q, D, A⟩ := g
  obtain ⟨hx, hb, hml, hr, hlk, hown, hts, hK, hN, hi, hA1, hA2, hc, hs, hR⟩ := G
  intro H locs ls hP hS hl
  have F : Q = _ := F
  subst F
  exact W.lret hx hb hr (fun t ht hW => ⟨⟨rfl, by rw [ht]; exact hP⟩, hS.F ht⟩) hS.2.2 hd
theorem w_zret {g : Gm} {κ : ctx} {own : String} {cc : ByteArray} {nL : Nat}  {rm : Room} (G : OK g κ own cc nL (some .boolean) rm) {pc : Nat} {lv : List (Nat × Value)} {L : Nat → va_E} {v : Int32} (hn : narrow .boolean (.int v) = .int v) (hd : decode cc pc = .ok (.ireturn, 1)) (F : Fn g κ (some (.int v)) L) : J g κ nL pc lv [.int v] L := by
  obtain ⟨p, l, e, R, s, m, args, below, meth, c, cells, slots, Q, D, A⟩ := g
  obtain ⟨hx, hb, hml, hr, hlk, hown, hts, hK, hN, hi, hA1, hA2, hc, hs, hR⟩ := G
  intro H locs ls hP hS hl
  have F : Q = _ := F
  subst F
  exact W.zret hx hb hr hn (fun t ht hW => ⟨⟨rfl, by rw [ht]; exact hP⟩, hS.F ht⟩) hS.2.2 hd
theorem w_vret {g : Gm} {κ : ctx} {own : String} {cc : ByteArray} {nL : Nat}  {rm : Room} (G : OK g κ own cc nL none rm) {pc : Nat} {lv : List (Nat × Value)} {L : Nat → va_E} (hd : decode cc pc = .ok (.return_, 1)) (F : Fn g κ none L) : J g κ nL pc lv [] L := by
  obtain ⟨p, l, e, R, s, m, args, below, meth, c, cells, slots, Q, D, A⟩ := g
  obtain ⟨hx, hb, hml, hr, hlk, hown, hts, hK, hN, hi, hA1, hA2, hc, hs, hR⟩ := G
  intro H locs ls hP hS hl
  have F : Q = _ := F
  subst F
  exact W.vret hx hb hr (fun t ht hW => ⟨⟨rfl, by rw [ht]; exact hP⟩, hS.F ht⟩) hS.2.2 hd
theorem w_aret {g : Gm} {κ : ctx} {own : String} {cc : ByteArray} {nL : Nat} {rt : FieldType} {rm : Room} (G : OK g κ own cc nL (some rt) rm) {pc : Nat} {lv : List (Nat × Value)} {L : Nat → va_E} {a : Nat} (hrt : (∃ n, rt = .object n) ∨ ∃ t, rt = .array t) (hd : decode cc pc = .ok (.areturn, 1)) (F : Fn g κ (some (.ref a)) L) : J g κ nL pc lv [.ref a] L := by
  obtain ⟨p, l, e, R, s, m, args, below, meth, c, cells, slots, Q, D, A⟩ := g
  obtain ⟨hx, hb, hml, hr, hlk, hown, hts, hK, hN, hi, hA1, hA2, hc, hs, hR⟩ := G
  intro H locs ls hP hS hl
  have F : Q = _ := F
  subst F
  exact W.aret hx hb hr hrt (Or.inr ⟨a, rfl⟩) (fun t ht hW => ⟨⟨rfl, by rw [ht]; exact hP⟩, hS.F ht⟩) hS.2.2 hd
theorem g_after {p : Program} {l : Launch} {e : Env} {R : Room} {s : State} {m : MethodId} {args : Array Value} {below : List Frame} {meth : Method} {c : Code} {H : Heap} {locs : List Loc} {cells slots : Nat} {Q : State → Prop} {pc : Nat} {ls : Array Slot} {st0 rest : List Value} {D : va_G} {κ : ctx} {A A1 free : Nat → Prop} {v : Option Value} {L' : Nat → va_E} {av : Array Value}
    (hr : va_Run p l e R s m args below meth c H locs cells slots 0 0 (F0 m pc ls st0) rest (Qx D κ A1 v L' av) free) (hS : va_S A s.heap H locs) (hA : ∀ q, A1 q → A q) (hf : ∀ q, free q → A q)
    (kk : ∀ (H1 : Heap) (locs1 : List Loc), va_P D classes (wl κ.1 L') H1 → va_S A s.heap H1 locs1 → W p l e R s m args below meth c H1 locs1 cells slots Q (F0 m (pc + 3) ls (v.toList ++ rest))) : W p l e R s m args below meth c H locs cells slots Q (F0 m pc ls st0) := by
  intro T hT X
  obtain ⟨v', st₀, t, T', L, h0, X', hL, e1, e2, ⟨⟨hv, hp⟩, hz, hk⟩, st⟩ := hr T hT X
  have ev : v' = v := Outcome.returned.inj hv
  subst ev
  rw [h0] at hz hk
  obtain ⟨t2, a1, b1⟩ := kk T'.heap (locs ++ L) (by rw [e1]; exact hp)
    ⟨Nat.le_trans hS.1 (by rw [e1]; exact hz), fun q h1 h2 => by rw [e1, hk q (Nat.lt_of_lt_of_le h1 hS.1) (fun z => h2 (hA q z))]; exact hS.2.1 q h1 h2, fun q hq => by
      rcases List.mem_append.mp hq with h | h
      · exact hS.2.2 q h
      · exact hf _ (hL q h)⟩ T' rfl X'
  exact ⟨t2, st t2 a1, b1⟩
/-- what a call needs of the tables, of the descriptor and of the room -/
def CB (y : MethodName) (b : ByteArray) (n' : Nat) (r' : Option FieldType) (rm' rm : Room) (n : Nat) : Prop := Cond.code y b n' r' ∈ utbl ∧ Cond.initialized y.cls ∈ utbl ∧ (y.cls ≠ "java/lang/invoke/MethodHandle" ∧ y.cls ≠ "java/lang/invoke/VarHandle" ∧ (parseMethodDescriptor y.desc).map (fun d => d.parameters.length) = some n) ∧ rm'.cells = 0 ∧ rm'.slots = 0 ∧ (rm'.frames + 1 ≤ rm.frames ∧ 8 + (n' + 11) + rm'.locals ≤ rm.locals)
theorem Pre.blind {D : va_G} {κ : ctx} {L : Nat → va_E} {sz : Nat} {av : List Value} : FrameBlind (va_Pc av (Pre D κ L sz)) := fun a3 U a4 a5 h => ⟨h.1, h.2.1, h.2.2.1, va_K.moved (u := U) (U := U.calling a4 a5 a3) (Vm.Alike.refl U.vm) h.2.2.2.1, NS.same (u := U) (U := U.calling a4 a5 a3) rfl h.2.2.2.2.1, h.2.2.2.2.2⟩
theorem w_callS {g : Gm} {κ : ctx} {own : String} {cc : ByteArray} {nL : Nat} {ret : Option FieldType} {rm : Room} (G : OK g κ own cc nL ret rm) {pc : Nat} {lv : List (Nat × Value)} {rest : List Value} {L : Nat → va_E} {y : MethodName} {b' : ByteArray} {n' index n : Nat} {r' : Option FieldType} {rm' : Room} {av : List Value} {v : Option Value} {L' : Nat → va_E} (hC : CB y b' n' r' rm' rm n) (hst : Cond.static y ∈ utbl) (hlink : Cond.methodLink own index y ∈ utbl) (hM : Mt y b' n' r' rm' κ av L v L') (hn : av.length = n) (hroom : (rest.map fun v => v.category).sum ≤ 8) (hd : decode cc pc = .ok (.invokestatic index, 3)) (k : J g κ nL (pc + 3) lv (v.toList ++ rest) L') : J g κ nL pc lv (av.reverse ++ rest) L := by
  obtain ⟨p, l, e, R, s, m, args, below, meth, c, cells, slots, Q, D, A⟩ := g
  obtain ⟨hx, hb, hml, hr, hlk, hown, hts, hK, hN, hi, hA1, hA2, hc, hs, hR⟩ := G
  intro H locs ls hP hS hl
  subst hR
  obtain ⟨c1, c2, c3, c4, c5, c6⟩ := hC
  have hAin := wl_Ain (L := L) (sz := H.size) hA1 (fun q hq => hA2 q (Nat.le_trans hS.1 hq))
  exact g_after (va_runS (As := av) (rest := rest) ⟨hx, hb, hml, hown, hts⟩ (hM l D H.size) ⟨callB_of n hts (uw_in c1) rfl c4 c5 (hts _ c2) (hts _ hlink) c3 c6, hts _ hst⟩ ⟨Pre.blind, fun U hU hW => ⟨rfl, by rw [hU], by rw [hU]; exact hP, va_K.moved hW.alike hK, NS.warm hW hN, hi⟩⟩ rfl hn hl.1 rfl (lv_room hroom) hd ⟨hc, hs⟩) hS hAin hAin (fun H1 locs1 hP1 hS1 => k H1 locs1 ls hP1 hS1 hl)
theorem w_callSN {g : Gm} {κ : ctx} {own : String} {cc : ByteArray} {nL : Nat} {ret : Option FieldType} {rm : Room} (G : OK g κ own cc nL ret rm) {pc : Nat} {lv : List (Nat × Value)} {rest : List Value} {L : Nat → va_E} {y : MethodName} {b' : ByteArray} {n' index n : Nat} {r' : Option FieldType} {rm' : Room} {av : List Value} {v : Option Value} {L' : Nat → va_E} {host : String} (hC : CB y b' n' r' rm' rm n) (hst : Cond.static y ∈ utbl) (hlink : Cond.methodLinkNest own index y host ∈ lw_tbl) (hM : Mt y b' n' r' rm' κ av L v L') (hn : av.length = n) (hroom : (rest.map fun v => v.category).sum ≤ 8) (hd : decode cc pc = .ok (.invokestatic index, 3)) (k : J g κ nL (pc + 3) lv (v.toList ++ rest) L') : J g κ nL pc lv (av.reverse ++ rest) L := by
  obtain ⟨p, l, e, R, s, m, args, below, meth, c, cells, slots, Q, D, A⟩ := g
  obtain ⟨hx, hb, hml, hr, hlk, hown, hts, hK, hN, hi, hA1, hA2, hc, hs, hR⟩ := G
  intro H locs ls hP hS hl
  subst hR
  obtain ⟨c1, c2, c3, c4, c5, c6⟩ := hC
  have hAin := wl_Ain (L := L) (sz := H.size) hA1 (fun q hq => hA2 q (Nat.le_trans hS.1 hq))
  exact g_after (va_runSN (As := av) (rest := rest) ⟨hx, hb, hml, hown, hts⟩ (hM l D H.size) ⟨va_cnB n hts (uw_in c1) rfl c4 c5 (hN _ hlink rfl) (hts _ c2) c3 c6, hts _ hst, trivial⟩ ⟨Pre.blind, fun U hU hW => ⟨rfl, by rw [hU], by rw [hU]; exact hP, va_K.moved hW.alike hK, NS.warm hW hN, hi⟩⟩ rfl hn hl.1 rfl (lv_room hroom) hd ⟨hc, hs⟩) hS hAin hAin (fun H1 locs1 hP1 hS1 => k H1 locs1 ls hP1 hS1 hl)
theorem w_callV {g : Gm} {κ : ctx} {own : String} {cc : ByteArray} {nL : Nat} {ret : Option FieldType} {rm : Room} (G : OK g κ own cc nL ret rm) {pc : Nat} {lv : List (Nat × Value)} {rest : List Value} {L : Nat → va_E} {y : MethodName} {b' : ByteArray} {n' index n : Nat} {r' : Option FieldType} {rm' : Room} {av : List Value} {v : Option Value} {L' : Nat → va_E} (q ci N : Nat) {T : u_T} {fs : List Value} (hq : q < NW) (he : L q = .inr (ci, fs)) (hc1 : classes[ci]? = some (y.cls, T, N)) (hC : CB y b' n' r' rm' rm n) (hinst : Cond.instanceMethod y ∈ utbl) (hsel : Cond.selects y.cls y y ∈ utbl) (hlink : Cond.methodLink own index y ∈ utbl) (hM : Mt y b' n' r' rm' κ (.ref (κ.1 q) :: av) L v L') (hn : av.length = n) (hroom : (rest.map fun v => v.category).sum ≤ 8) (hd : decode cc pc = .ok (.invokevirtual index, 3)) (k : J g κ nL (pc + 3) lv (v.toList ++ rest) L') : J g κ nL pc lv (av.reverse ++ .ref (κ.1 q) :: rest) L := by
  obtain ⟨p, l, e, R, s, m, args, below, meth, c, cells, slots, Q, D, A⟩ := g
  obtain ⟨hx, hb, hml, hr, hlk, hown, hts, hK, hN, hi, hA1, hA2, hc, hs, hR⟩ := G
  intro H locs ls hP hS hl
  subst hR
  obtain ⟨c1, c2, c3, c4, c5, c6⟩ := hC
  have hAin := wl_Ain (L := L) (sz := H.size) hA1 (fun q hq => hA2 q (Nat.le_trans hS.1 hq))
  have hw9 : (wl κ.1 L)[q]? = some (κ.1 q, .inr (ci, fs)) := by rw [wl_get hq, he]
  exact g_after (va_runV (As := av) (rest := rest) ⟨hx, hb, hml, hown, hts⟩ (hM l D H.size) ⟨callB_of n hts (uw_in c1) rfl c4 c5 (hts _ c2) (hts _ hlink) c3 c6, hts _ hinst, hts _ hsel⟩ ⟨Pre.blind, va_recv hK hP hc1 hw9, fun U hU hW => ⟨rfl, by rw [hU], by rw [hU]; exact hP, va_K.moved hW.alike hK, NS.warm hW hN, hi⟩⟩ rfl hn hl.1 rfl (lv_room hroom) hd ⟨hc, hs⟩) hS hAin hAin (fun H1 locs1 hP1 hS1 => k H1 locs1 ls hP1 hS1 hl)
end
