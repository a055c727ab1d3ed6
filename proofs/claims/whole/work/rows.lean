section
-- ===== PART A: goes FIRST, ahead of the names: the tables' words, and 'selects' of the private methods out of them =====
/-- a private method of a class that the tables say can be made, by its rows of tables_1 -/
def lw_okq (q : MethodName × Nat) : Prop := (q.1.cls ≠ "java/lang/invoke/MethodHandle" ∧ q.1.cls ≠ "java/lang/invoke/VarHandle") ∧ Cond.instantiable q.1.cls q.2 ∈ tables_1 ∧ Cond.privateMethod q.1 ∈ tables_1 ∧ Cond.instanceMethod q.1 ∈ tables_1
theorem lw_p0 : lw_okq (⟨"ShortVectors", "ask", "(IIIII)Z"⟩, 12) := ⟨⟨by decide +kernel, by decide +kernel⟩, List.mem_of_getElem? (i := 13) (by decide +kernel), List.mem_of_getElem? (i := 165) (by decide +kernel), List.mem_of_getElem? (i := 166) (by decide +kernel)⟩
theorem lw_p1 : lw_okq (⟨"ShortVectors$Echelon", "merge", "([JI)V"⟩, 2) := ⟨⟨by decide +kernel, by decide +kernel⟩, List.mem_of_getElem? (i := 23) (by decide +kernel), List.mem_of_getElem? (i := 180) (by decide +kernel), List.mem_of_getElem? (i := 181) (by decide +kernel)⟩
theorem lw_p2 : lw_okq (⟨"ShortVectors$Echelon", "shorten", "(I)V"⟩, 2) := ⟨⟨by decide +kernel, by decide +kernel⟩, List.mem_of_getElem? (i := 23) (by decide +kernel), List.mem_of_getElem? (i := 189) (by decide +kernel), List.mem_of_getElem? (i := 190) (by decide +kernel)⟩
theorem lw_p3 : lw_okq (⟨"ShortVectors", "forget", "()V"⟩, 12) := ⟨⟨by decide +kernel, by decide +kernel⟩, List.mem_of_getElem? (i := 13) (by decide +kernel), List.mem_of_getElem? (i := 200) (by decide +kernel), List.mem_of_getElem? (i := 201) (by decide +kernel)⟩
theorem lw_p4 : lw_okq (⟨"ShortVectors", "gather", "(LShortVectors$Echelon;I)V"⟩, 12) := ⟨⟨by decide +kernel, by decide +kernel⟩, List.mem_of_getElem? (i := 13) (by decide +kernel), List.mem_of_getElem? (i := 208) (by decide +kernel), List.mem_of_getElem? (i := 209) (by decide +kernel)⟩
theorem lw_p5 : lw_okq (⟨"ShortVectors", "readyBasis", "()LShortVectors$Basis;"⟩, 12) := ⟨⟨by decide +kernel, by decide +kernel⟩, List.mem_of_getElem? (i := 13) (by decide +kernel), List.mem_of_getElem? (i := 235) (by decide +kernel), List.mem_of_getElem? (i := 236) (by decide +kernel)⟩
theorem lw_p6 : lw_okq (⟨"ShortVectors$Basis", "reduce", "()V"⟩, 8) := ⟨⟨by decide +kernel, by decide +kernel⟩, List.mem_of_getElem? (i := 38) (by decide +kernel), List.mem_of_getElem? (i := 249) (by decide +kernel), List.mem_of_getElem? (i := 250) (by decide +kernel)⟩
theorem lw_p7 : lw_okq (⟨"ShortVectors$Basis", "shortenByPairs", "()Z"⟩, 8) := ⟨⟨by decide +kernel, by decide +kernel⟩, List.mem_of_getElem? (i := 38) (by decide +kernel), List.mem_of_getElem? (i := 254) (by decide +kernel), List.mem_of_getElem? (i := 255) (by decide +kernel)⟩
theorem lw_p8 : lw_okq (⟨"ShortVectors$Basis", "shortenBy", "(II)Z"⟩, 8) := ⟨⟨by decide +kernel, by decide +kernel⟩, List.mem_of_getElem? (i := 38) (by decide +kernel), List.mem_of_getElem? (i := 258) (by decide +kernel), List.mem_of_getElem? (i := 259) (by decide +kernel)⟩
theorem lw_p9 : lw_okq (⟨"ShortVectors$Basis", "shortenBySums", "()Z"⟩, 8) := ⟨⟨by decide +kernel, by decide +kernel⟩, List.mem_of_getElem? (i := 38) (by decide +kernel), List.mem_of_getElem? (i := 275) (by decide +kernel), List.mem_of_getElem? (i := 276) (by decide +kernel)⟩
theorem lw_p10 : lw_okq (⟨"ShortVectors$Basis", "shortenByChoice", "(II)Z"⟩, 8) := ⟨⟨by decide +kernel, by decide +kernel⟩, List.mem_of_getElem? (i := 38) (by decide +kernel), List.mem_of_getElem? (i := 279) (by decide +kernel), List.mem_of_getElem? (i := 280) (by decide +kernel)⟩
theorem lw_p11 : lw_okq (⟨"ShortVectors$Basis", "sort", "()V"⟩, 8) := ⟨⟨by decide +kernel, by decide +kernel⟩, List.mem_of_getElem? (i := 38) (by decide +kernel), List.mem_of_getElem? (i := 283) (by decide +kernel), List.mem_of_getElem? (i := 284) (by decide +kernel)⟩
theorem lw_p12 : lw_okq (⟨"ShortVectors$Basis", "direct", "(I)V"⟩, 8) := ⟨⟨by decide +kernel, by decide +kernel⟩, List.mem_of_getElem? (i := 38) (by decide +kernel), List.mem_of_getElem? (i := 291) (by decide +kernel), List.mem_of_getElem? (i := 292) (by decide +kernel)⟩
theorem lw_p13 : lw_okq (⟨"ShortVectors$Basis", "eliminate", "(IJ)V"⟩, 8) := ⟨⟨by decide +kernel, by decide +kernel⟩, List.mem_of_getElem? (i := 38) (by decide +kernel), List.mem_of_getElem? (i := 310) (by decide +kernel), List.mem_of_getElem? (i := 311) (by decide +kernel)⟩
theorem lw_p14 : lw_okq (⟨"ShortVectors$Basis", "squareOutside", "([J)J"⟩, 8) := ⟨⟨by decide +kernel, by decide +kernel⟩, List.mem_of_getElem? (i := 38) (by decide +kernel), List.mem_of_getElem? (i := 373) (by decide +kernel), List.mem_of_getElem? (i := 374) (by decide +kernel)⟩
theorem lw_p15 : lw_okq (⟨"ShortVectors$Basis", "descend", "(IJLShortVectors$Collector;)V"⟩, 8) := ⟨⟨by decide +kernel, by decide +kernel⟩, List.mem_of_getElem? (i := 38) (by decide +kernel), List.mem_of_getElem? (i := 378) (by decide +kernel), List.mem_of_getElem? (i := 379) (by decide +kernel)⟩
def lw_privs_1 : List (MethodName × Nat) := [(⟨"ShortVectors", "ask", "(IIIII)Z"⟩, 12), (⟨"ShortVectors$Echelon", "merge", "([JI)V"⟩, 2), (⟨"ShortVectors$Echelon", "shorten", "(I)V"⟩, 2), (⟨"ShortVectors", "forget", "()V"⟩, 12), (⟨"ShortVectors", "gather", "(LShortVectors$Echelon;I)V"⟩, 12), (⟨"ShortVectors", "readyBasis", "()LShortVectors$Basis;"⟩, 12), (⟨"ShortVectors$Basis", "reduce", "()V"⟩, 8), (⟨"ShortVectors$Basis", "shortenByPairs", "()Z"⟩, 8), (⟨"ShortVectors$Basis", "shortenBy", "(II)Z"⟩, 8), (⟨"ShortVectors$Basis", "shortenBySums", "()Z"⟩, 8), (⟨"ShortVectors$Basis", "shortenByChoice", "(II)Z"⟩, 8), (⟨"ShortVectors$Basis", "sort", "()V"⟩, 8), (⟨"ShortVectors$Basis", "direct", "(I)V"⟩, 8), (⟨"ShortVectors$Basis", "eliminate", "(IJ)V"⟩, 8), (⟨"ShortVectors$Basis", "squareOutside", "([J)J"⟩, 8), (⟨"ShortVectors$Basis", "descend", "(IJLShortVectors$Collector;)V"⟩, 8)]
theorem lw_r1 : ∀ q ∈ lw_privs_1, lw_okq q := List.forall_mem_cons.mpr ⟨lw_p0, List.forall_mem_cons.mpr ⟨lw_p1, List.forall_mem_cons.mpr ⟨lw_p2, List.forall_mem_cons.mpr ⟨lw_p3, List.forall_mem_cons.mpr ⟨lw_p4, List.forall_mem_cons.mpr ⟨lw_p5, List.forall_mem_cons.mpr ⟨lw_p6, List.forall_mem_cons.mpr ⟨lw_p7, List.forall_mem_cons.mpr ⟨lw_p8, List.forall_mem_cons.mpr ⟨lw_p9, List.forall_mem_cons.mpr ⟨lw_p10, List.forall_mem_cons.mpr ⟨lw_p11, List.forall_mem_cons.mpr ⟨lw_p12, List.forall_mem_cons.mpr ⟨lw_p13, List.forall_mem_cons.mpr ⟨lw_p14, List.forall_mem_cons.mpr ⟨lw_p15, fun _ h => absurd h List.not_mem_nil⟩⟩⟩⟩⟩⟩⟩⟩⟩⟩⟩⟩⟩⟩⟩⟩
theorem lw_p16 : lw_okq (⟨"ShortVectors$FirstVectors", "precedes", "([JJI)Z"⟩, 5) := ⟨⟨by decide +kernel, by decide +kernel⟩, List.mem_of_getElem? (i := 90) (by decide +kernel), List.mem_of_getElem? (i := 404) (by decide +kernel), List.mem_of_getElem? (i := 405) (by decide +kernel)⟩
theorem lw_p17 : lw_okq (⟨"ShortVectors$FirstVectors", "insert", "([JJI)V"⟩, 5) := ⟨⟨by decide +kernel, by decide +kernel⟩, List.mem_of_getElem? (i := 90) (by decide +kernel), List.mem_of_getElem? (i := 409) (by decide +kernel), List.mem_of_getElem? (i := 410) (by decide +kernel)⟩
theorem lw_p18 : lw_okq (⟨"ShortVectors$Basis", "walk", "(IJIJLShortVectors$Collector;)V"⟩, 8) := ⟨⟨by decide +kernel, by decide +kernel⟩, List.mem_of_getElem? (i := 38) (by decide +kernel), List.mem_of_getElem? (i := 426) (by decide +kernel), List.mem_of_getElem? (i := 427) (by decide +kernel)⟩
theorem lw_p19 : lw_okq (⟨"ShortVectorsModel", "changed", "()V"⟩, 27) := ⟨⟨by decide +kernel, by decide +kernel⟩, List.mem_of_getElem? (i := 485) (by decide +kernel), List.mem_of_getElem? (i := 580) (by decide +kernel), List.mem_of_getElem? (i := 581) (by decide +kernel)⟩
theorem lw_p20 : lw_okq (⟨"ShortVectorsModel", "look", "(I)V"⟩, 27) := ⟨⟨by decide +kernel, by decide +kernel⟩, List.mem_of_getElem? (i := 485) (by decide +kernel), List.mem_of_getElem? (i := 596) (by decide +kernel), List.mem_of_getElem? (i := 597) (by decide +kernel)⟩
theorem lw_p21 : lw_okq (⟨"ShortVectorsModel", "enter", "()V"⟩, 27) := ⟨⟨by decide +kernel, by decide +kernel⟩, List.mem_of_getElem? (i := 485) (by decide +kernel), List.mem_of_getElem? (i := 600) (by decide +kernel), List.mem_of_getElem? (i := 601) (by decide +kernel)⟩
theorem lw_p22 : lw_okq (⟨"ShortVectorsModel", "rowAt", "(I)I"⟩, 27) := ⟨⟨by decide +kernel, by decide +kernel⟩, List.mem_of_getElem? (i := 485) (by decide +kernel), List.mem_of_getElem? (i := 604) (by decide +kernel), List.mem_of_getElem? (i := 605) (by decide +kernel)⟩
theorem lw_p23 : lw_okq (⟨"ShortVectorsModel", "tidy", "(I)V"⟩, 27) := ⟨⟨by decide +kernel, by decide +kernel⟩, List.mem_of_getElem? (i := 485) (by decide +kernel), List.mem_of_getElem? (i := 608) (by decide +kernel), List.mem_of_getElem? (i := 609) (by decide +kernel)⟩
theorem lw_p24 : lw_okq (⟨"ShortVectorsModel", "insert", "(I)V"⟩, 27) := ⟨⟨by decide +kernel, by decide +kernel⟩, List.mem_of_getElem? (i := 485) (by decide +kernel), List.mem_of_getElem? (i := 615) (by decide +kernel), List.mem_of_getElem? (i := 616) (by decide +kernel)⟩
theorem lw_p25 : lw_okq (⟨"ShortVectorsModel", "divide", "(I)V"⟩, 27) := ⟨⟨by decide +kernel, by decide +kernel⟩, List.mem_of_getElem? (i := 485) (by decide +kernel), List.mem_of_getElem? (i := 619) (by decide +kernel), List.mem_of_getElem? (i := 620) (by decide +kernel)⟩
theorem lw_p26 : lw_okq (⟨"ShortVectorsModel", "swap", "(I)V"⟩, 27) := ⟨⟨by decide +kernel, by decide +kernel⟩, List.mem_of_getElem? (i := 485) (by decide +kernel), List.mem_of_getElem? (i := 623) (by decide +kernel), List.mem_of_getElem? (i := 624) (by decide +kernel)⟩
theorem lw_p27 : lw_okq (⟨"ShortVectorsModel", "two", "(IIII)J"⟩, 27) := ⟨⟨by decide +kernel, by decide +kernel⟩, List.mem_of_getElem? (i := 485) (by decide +kernel), List.mem_of_getElem? (i := 631) (by decide +kernel), List.mem_of_getElem? (i := 632) (by decide +kernel)⟩
theorem lw_p28 : lw_okq (⟨"ShortVectorsModel", "three", "(III)J"⟩, 27) := ⟨⟨by decide +kernel, by decide +kernel⟩, List.mem_of_getElem? (i := 485) (by decide +kernel), List.mem_of_getElem? (i := 635) (by decide +kernel), List.mem_of_getElem? (i := 636) (by decide +kernel)⟩
theorem lw_p29 : lw_okq (⟨"ShortVectorsModel", "set", "(IIII)V"⟩, 27) := ⟨⟨by decide +kernel, by decide +kernel⟩, List.mem_of_getElem? (i := 485) (by decide +kernel), List.mem_of_getElem? (i := 643) (by decide +kernel), List.mem_of_getElem? (i := 644) (by decide +kernel)⟩
theorem lw_p30 : lw_okq (⟨"ShortVectorsModel", "times", "()J"⟩, 27) := ⟨⟨by decide +kernel, by decide +kernel⟩, List.mem_of_getElem? (i := 485) (by decide +kernel), List.mem_of_getElem? (i := 647) (by decide +kernel), List.mem_of_getElem? (i := 648) (by decide +kernel)⟩
theorem lw_p31 : lw_okq (⟨"ShortVectorsModel", "origin", "()V"⟩, 27) := ⟨⟨by decide +kernel, by decide +kernel⟩, List.mem_of_getElem? (i := 485) (by decide +kernel), List.mem_of_getElem? (i := 667) (by decide +kernel), List.mem_of_getElem? (i := 668) (by decide +kernel)⟩
def lw_privs_2 : List (MethodName × Nat) := [(⟨"ShortVectors$FirstVectors", "precedes", "([JJI)Z"⟩, 5), (⟨"ShortVectors$FirstVectors", "insert", "([JJI)V"⟩, 5), (⟨"ShortVectors$Basis", "walk", "(IJIJLShortVectors$Collector;)V"⟩, 8), (⟨"ShortVectorsModel", "changed", "()V"⟩, 27), (⟨"ShortVectorsModel", "look", "(I)V"⟩, 27), (⟨"ShortVectorsModel", "enter", "()V"⟩, 27), (⟨"ShortVectorsModel", "rowAt", "(I)I"⟩, 27), (⟨"ShortVectorsModel", "tidy", "(I)V"⟩, 27), (⟨"ShortVectorsModel", "insert", "(I)V"⟩, 27), (⟨"ShortVectorsModel", "divide", "(I)V"⟩, 27), (⟨"ShortVectorsModel", "swap", "(I)V"⟩, 27), (⟨"ShortVectorsModel", "two", "(IIII)J"⟩, 27), (⟨"ShortVectorsModel", "three", "(III)J"⟩, 27), (⟨"ShortVectorsModel", "set", "(IIII)V"⟩, 27), (⟨"ShortVectorsModel", "times", "()J"⟩, 27), (⟨"ShortVectorsModel", "origin", "()V"⟩, 27)]
theorem lw_r2 : ∀ q ∈ lw_privs_2, lw_okq q := List.forall_mem_cons.mpr ⟨lw_p16, List.forall_mem_cons.mpr ⟨lw_p17, List.forall_mem_cons.mpr ⟨lw_p18, List.forall_mem_cons.mpr ⟨lw_p19, List.forall_mem_cons.mpr ⟨lw_p20, List.forall_mem_cons.mpr ⟨lw_p21, List.forall_mem_cons.mpr ⟨lw_p22, List.forall_mem_cons.mpr ⟨lw_p23, List.forall_mem_cons.mpr ⟨lw_p24, List.forall_mem_cons.mpr ⟨lw_p25, List.forall_mem_cons.mpr ⟨lw_p26, List.forall_mem_cons.mpr ⟨lw_p27, List.forall_mem_cons.mpr ⟨lw_p28, List.forall_mem_cons.mpr ⟨lw_p29, List.forall_mem_cons.mpr ⟨lw_p30, List.forall_mem_cons.mpr ⟨lw_p31, fun _ h => absurd h List.not_mem_nil⟩⟩⟩⟩⟩⟩⟩⟩⟩⟩⟩⟩⟩⟩⟩⟩
theorem lw_p32 : lw_okq (⟨"ShortVectorsModel", "walk", "(IJ)V"⟩, 27) := ⟨⟨by decide +kernel, by decide +kernel⟩, List.mem_of_getElem? (i := 485) (by decide +kernel), List.mem_of_getElem? (i := 671) (by decide +kernel), List.mem_of_getElem? (i := 672) (by decide +kernel)⟩
theorem lw_p33 : lw_okq (⟨"ShortVectorsModel", "open", "(I)I"⟩, 27) := ⟨⟨by decide +kernel, by decide +kernel⟩, List.mem_of_getElem? (i := 485) (by decide +kernel), List.mem_of_getElem? (i := 675) (by decide +kernel), List.mem_of_getElem? (i := 676) (by decide +kernel)⟩
theorem lw_p34 : lw_okq (⟨"ShortVectorsModel", "visit", "(IJ)V"⟩, 27) := ⟨⟨by decide +kernel, by decide +kernel⟩, List.mem_of_getElem? (i := 485) (by decide +kernel), List.mem_of_getElem? (i := 679) (by decide +kernel), List.mem_of_getElem? (i := 680) (by decide +kernel)⟩
theorem lw_p35 : lw_okq (⟨"ShortVectorsModel", "sortIn", "(IJ)V"⟩, 27) := ⟨⟨by decide +kernel, by decide +kernel⟩, List.mem_of_getElem? (i := 485) (by decide +kernel), List.mem_of_getElem? (i := 683) (by decide +kernel), List.mem_of_getElem? (i := 684) (by decide +kernel)⟩
theorem lw_p36 : lw_okq (⟨"ShortVectorsModel", "before", "(IJI)Z"⟩, 27) := ⟨⟨by decide +kernel, by decide +kernel⟩, List.mem_of_getElem? (i := 485) (by decide +kernel), List.mem_of_getElem? (i := 687) (by decide +kernel), List.mem_of_getElem? (i := 688) (by decide +kernel)⟩
theorem lw_p37 : lw_okq (⟨"ShortVectorsModel", "extend", "(I)V"⟩, 27) := ⟨⟨by decide +kernel, by decide +kernel⟩, List.mem_of_getElem? (i := 485) (by decide +kernel), List.mem_of_getElem? (i := 691) (by decide +kernel), List.mem_of_getElem? (i := 692) (by decide +kernel)⟩
theorem lw_p38 : lw_okq (⟨"ShortVectorsModel", "lead", "(I)I"⟩, 27) := ⟨⟨by decide +kernel, by decide +kernel⟩, List.mem_of_getElem? (i := 485) (by decide +kernel), List.mem_of_getElem? (i := 695) (by decide +kernel), List.mem_of_getElem? (i := 696) (by decide +kernel)⟩
theorem lw_p39 : lw_okq (⟨"ShortVectorsModel", "shrink", "()V"⟩, 27) := ⟨⟨by decide +kernel, by decide +kernel⟩, List.mem_of_getElem? (i := 485) (by decide +kernel), List.mem_of_getElem? (i := 699) (by decide +kernel), List.mem_of_getElem? (i := 700) (by decide +kernel)⟩
theorem lw_p40 : lw_okq (⟨"ShortVectorsModel", "compare", "(IJ)V"⟩, 27) := ⟨⟨by decide +kernel, by decide +kernel⟩, List.mem_of_getElem? (i := 485) (by decide +kernel), List.mem_of_getElem? (i := 703) (by decide +kernel), List.mem_of_getElem? (i := 704) (by decide +kernel)⟩
theorem lw_p41 : lw_okq (⟨"ShortVectorsModel", "finish", "(I)V"⟩, 27) := ⟨⟨by decide +kernel, by decide +kernel⟩, List.mem_of_getElem? (i := 485) (by decide +kernel), List.mem_of_getElem? (i := 707) (by decide +kernel), List.mem_of_getElem? (i := 708) (by decide +kernel)⟩
theorem lw_p42 : lw_okq (⟨"ShortVectorsModel", "along", "(IJJ)V"⟩, 27) := ⟨⟨by decide +kernel, by decide +kernel⟩, List.mem_of_getElem? (i := 485) (by decide +kernel), List.mem_of_getElem? (i := 712) (by decide +kernel), List.mem_of_getElem? (i := 713) (by decide +kernel)⟩
theorem lw_p43 : lw_okq (⟨"ShortVectorsModel", "take", "(I)V"⟩, 27) := ⟨⟨by decide +kernel, by decide +kernel⟩, List.mem_of_getElem? (i := 485) (by decide +kernel), List.mem_of_getElem? (i := 716) (by decide +kernel), List.mem_of_getElem? (i := 717) (by decide +kernel)⟩
theorem lw_p44 : lw_okq (⟨"ShortVectorsModel", "range", "(I)V"⟩, 27) := ⟨⟨by decide +kernel, by decide +kernel⟩, List.mem_of_getElem? (i := 485) (by decide +kernel), List.mem_of_getElem? (i := 720) (by decide +kernel), List.mem_of_getElem? (i := 721) (by decide +kernel)⟩
theorem lw_p45 : lw_okq (⟨"ShortVectorsModel", "list", "()V"⟩, 27) := ⟨⟨by decide +kernel, by decide +kernel⟩, List.mem_of_getElem? (i := 485) (by decide +kernel), List.mem_of_getElem? (i := 732) (by decide +kernel), List.mem_of_getElem? (i := 733) (by decide +kernel)⟩
theorem lw_p46 : lw_okq (⟨"ShortVectorsModel", "measure", "()V"⟩, 27) := ⟨⟨by decide +kernel, by decide +kernel⟩, List.mem_of_getElem? (i := 485) (by decide +kernel), List.mem_of_getElem? (i := 740) (by decide +kernel), List.mem_of_getElem? (i := 741) (by decide +kernel)⟩
theorem lw_p47 : lw_okq (⟨"ShortVectorsModel", "reaches", "(II)Z"⟩, 27) := ⟨⟨by decide +kernel, by decide +kernel⟩, List.mem_of_getElem? (i := 485) (by decide +kernel), List.mem_of_getElem? (i := 744) (by decide +kernel), List.mem_of_getElem? (i := 745) (by decide +kernel)⟩
def lw_privs_3 : List (MethodName × Nat) := [(⟨"ShortVectorsModel", "walk", "(IJ)V"⟩, 27), (⟨"ShortVectorsModel", "open", "(I)I"⟩, 27), (⟨"ShortVectorsModel", "visit", "(IJ)V"⟩, 27), (⟨"ShortVectorsModel", "sortIn", "(IJ)V"⟩, 27), (⟨"ShortVectorsModel", "before", "(IJI)Z"⟩, 27), (⟨"ShortVectorsModel", "extend", "(I)V"⟩, 27), (⟨"ShortVectorsModel", "lead", "(I)I"⟩, 27), (⟨"ShortVectorsModel", "shrink", "()V"⟩, 27), (⟨"ShortVectorsModel", "compare", "(IJ)V"⟩, 27), (⟨"ShortVectorsModel", "finish", "(I)V"⟩, 27), (⟨"ShortVectorsModel", "along", "(IJJ)V"⟩, 27), (⟨"ShortVectorsModel", "take", "(I)V"⟩, 27), (⟨"ShortVectorsModel", "range", "(I)V"⟩, 27), (⟨"ShortVectorsModel", "list", "()V"⟩, 27), (⟨"ShortVectorsModel", "measure", "()V"⟩, 27), (⟨"ShortVectorsModel", "reaches", "(II)Z"⟩, 27)]
theorem lw_r3 : ∀ q ∈ lw_privs_3, lw_okq q := List.forall_mem_cons.mpr ⟨lw_p32, List.forall_mem_cons.mpr ⟨lw_p33, List.forall_mem_cons.mpr ⟨lw_p34, List.forall_mem_cons.mpr ⟨lw_p35, List.forall_mem_cons.mpr ⟨lw_p36, List.forall_mem_cons.mpr ⟨lw_p37, List.forall_mem_cons.mpr ⟨lw_p38, List.forall_mem_cons.mpr ⟨lw_p39, List.forall_mem_cons.mpr ⟨lw_p40, List.forall_mem_cons.mpr ⟨lw_p41, List.forall_mem_cons.mpr ⟨lw_p42, List.forall_mem_cons.mpr ⟨lw_p43, List.forall_mem_cons.mpr ⟨lw_p44, List.forall_mem_cons.mpr ⟨lw_p45, List.forall_mem_cons.mpr ⟨lw_p46, List.forall_mem_cons.mpr ⟨lw_p47, fun _ h => absurd h List.not_mem_nil⟩⟩⟩⟩⟩⟩⟩⟩⟩⟩⟩⟩⟩⟩⟩⟩
theorem lw_p48 : lw_okq (⟨"ShortVectorsModel", "seek", "(IIII)V"⟩, 27) := ⟨⟨by decide +kernel, by decide +kernel⟩, List.mem_of_getElem? (i := 485) (by decide +kernel), List.mem_of_getElem? (i := 752) (by decide +kernel), List.mem_of_getElem? (i := 753) (by decide +kernel)⟩
def lw_privs_4 : List (MethodName × Nat) := [(⟨"ShortVectorsModel", "seek", "(IIII)V"⟩, 27)]
theorem lw_r4 : ∀ q ∈ lw_privs_4, lw_okq q := List.forall_mem_cons.mpr ⟨lw_p48, fun _ h => absurd h List.not_mem_nil⟩
def lw_privs : List (MethodName × Nat) := lw_privs_1 ++ (lw_privs_2 ++ (lw_privs_3 ++ (lw_privs_4)))
def lw_tbl : List Cond := k2_sels lw_privs ++ tables_1
theorem lw_privs_ok : ∀ q ∈ lw_privs, lw_okq q := by
  show ∀ q ∈ lw_privs_1 ++ (lw_privs_2 ++ (lw_privs_3 ++ (lw_privs_4))), lw_okq q
  exact List.forall_mem_append.mpr ⟨lw_r1, List.forall_mem_append.mpr ⟨lw_r2, List.forall_mem_append.mpr ⟨lw_r3, lw_r4⟩⟩⟩
/-- the words of the tables that a call may hand on -/
def utbl : List Cond := lw_tbl.filter goodWord
theorem u_mem {w : Cond} (h : w ∈ lw_tbl) (hg : goodWord w = true) : w ∈ utbl := List.mem_filter.mpr ⟨h, hg⟩
def uw (y : MethodName) (b : ByteArray) (n : Nat) (r : Option FieldType) : List Cond := .code y b n r :: utbl
theorem uw_in {y : MethodName} {b : ByteArray} {n : Nat} {r : Option FieldType} (h : Cond.code y b n r ∈ utbl) : GoodIn utbl (uw y b n r) := by
  intro w hw
  have h1 : w ∈ utbl := by
    rcases List.mem_cons.mp hw with e | e
    · rw [e]; exact h
    · exact e
  exact ⟨h1, good_of_word (List.mem_filter.mp h1).2⟩
def RM : String := "ShortVectorsModel"
def TM : u_T := fun k => match k with
  | 0 => ("ShortVectorsModel", "many", "I", false)
  | 1 => ("ShortVectorsModel", "generator", "[I", true)
  | 2 => ("ShortVectorsModel", "known", "Z", false)
  | 3 => ("ShortVectorsModel", "without", "I", false)
  | 4 => ("ShortVectorsModel", "rows", "I", false)
  | 5 => ("ShortVectorsModel", "row", "[J", true)
  | 6 => ("ShortVectorsModel", "pivot", "[I", true)
  | 7 => ("ShortVectorsModel", "fresh", "[J", true)
  | 8 => ("ShortVectorsModel", "multiple", "[J", true)
  | 9 => ("ShortVectorsModel", "last", "[J", true)
  | 10 => ("ShortVectorsModel", "made", "[J", true)
  | 11 => ("ShortVectorsModel", "settled", "[J", true)
  | 12 => ("ShortVectorsModel", "point", "[J", true)
  | 13 => ("ShortVectorsModel", "limit", "J", false)
  | 14 => ("ShortVectorsModel", "mode", "I", false)
  | 15 => ("ShortVectorsModel", "counted", "I", false)
  | 16 => ("ShortVectorsModel", "listed", "Z", false)
  | 17 => ("ShortVectorsModel", "held", "I", false)
  | 18 => ("ShortVectorsModel", "first", "[J", true)
  | 19 => ("ShortVectorsModel", "squares", "[J", true)
  | 20 => ("ShortVectorsModel", "wanted", "I", false)
  | 21 => ("ShortVectorsModel", "spanned", "I", false)
  | 22 => ("ShortVectorsModel", "span", "[J", true)
  | 23 => ("ShortVectorsModel", "minima", "[I", true)
  | 24 => ("ShortVectorsModel", "measured", "Z", false)
  | 25 => ("ShortVectorsModel", "found", "[J", true)
  | _ => ("ShortVectorsModel", "any", "Z", false)
def tyM : Nat → FieldType := fun k => match k with
  | 0 => .int
  | 1 => .array .int
  | 2 => .boolean
  | 3 => .int
  | 4 => .int
  | 5 => .array .long
  | 6 => .array .int
  | 7 => .array .long
  | 8 => .array .long
  | 9 => .array .long
  | 10 => .array .long
  | 11 => .array .long
  | 12 => .array .long
  | 13 => .long
  | 14 => .int
  | 15 => .int
  | 16 => .boolean
  | 17 => .int
  | 18 => .array .long
  | 19 => .array .long
  | 20 => .int
  | 21 => .int
  | 22 => .array .long
  | 23 => .array .int
  | 24 => .boolean
  | 25 => .array .long
  | _ => .boolean
theorem nmM : ∀ a, a < 27 → ∀ b, b < 27 → a ≠ b → (TM a).2.1 ≠ (TM b).2.1 := by decide +kernel
theorem tyM_ok : ∀ k, k < 27 → parseFieldDescriptor (TM k).2.2.1 = some (tyM k) := by decide +kernel
theorem wsM_ok : ∀ w ∈ u_ws RM TM 27, w ∈ utbl := fun w h => u_mem ((show ∀ w ∈ u_ws RM TM 27, w ∈ lw_tbl by decide +kernel) w h) ((show ∀ w ∈ u_ws RM TM 27, goodWord w = true by decide +kernel) w h)
def RV : String := "ShortVectors"
def TV : u_T := fun k => match k with
  | 0 => ("ShortVectors", "added", "[[J", true)
  | 1 => ("ShortVectors", "asked", "[J", true)
  | 2 => ("ShortVectors", "echelon", "LShortVectors$Echelon;", true)
  | 3 => ("ShortVectors", "others", "LShortVectors$Echelon;", true)
  | 4 => ("ShortVectors", "basis", "LShortVectors$Basis;", true)
  | 5 => ("ShortVectors", "tally", "LShortVectors$Tally;", true)
  | 6 => ("ShortVectors", "first", "LShortVectors$FirstVectors;", true)
  | 7 => ("ShortVectors", "closest", "LShortVectors$Closest;", true)
  | 8 => ("ShortVectors", "held", "I", false)
  | 9 => ("ShortVectors", "reduced", "Z", false)
  | 10 => ("ShortVectors", "tallied", "Z", false)
  | _ => ("ShortVectors", "listed", "Z", false)
def tyV : Nat → FieldType := fun k => match k with
  | 0 => .array (.array .long)
  | 1 => .array .long
  | 2 => .object "ShortVectors$Echelon"
  | 3 => .object "ShortVectors$Echelon"
  | 4 => .object "ShortVectors$Basis"
  | 5 => .object "ShortVectors$Tally"
  | 6 => .object "ShortVectors$FirstVectors"
  | 7 => .object "ShortVectors$Closest"
  | 8 => .int
  | 9 => .boolean
  | 10 => .boolean
  | _ => .boolean
theorem nmV : ∀ a, a < 12 → ∀ b, b < 12 → a ≠ b → (TV a).2.1 ≠ (TV b).2.1 := by decide +kernel
theorem tyV_ok : ∀ k, k < 12 → parseFieldDescriptor (TV k).2.2.1 = some (tyV k) := by decide +kernel
theorem wsV_ok : ∀ w ∈ u_ws RV TV 12, w ∈ utbl := fun w h => u_mem ((show ∀ w ∈ u_ws RV TV 12, w ∈ lw_tbl by decide +kernel) w h) ((show ∀ w ∈ u_ws RV TV 12, goodWord w = true by decide +kernel) w h)
def RE : String := "ShortVectors$Echelon"
def TE : u_T := fun k => match k with
  | 0 => ("ShortVectors$Echelon", "rows", "[[J", true)
  | _ => ("ShortVectors$Echelon", "rest", "[J", true)
def tyE : Nat → FieldType := fun k => match k with
  | 0 => .array (.array .long)
  | _ => .array .long
theorem nmE : ∀ a, a < 2 → ∀ b, b < 2 → a ≠ b → (TE a).2.1 ≠ (TE b).2.1 := by decide +kernel
theorem tyE_ok : ∀ k, k < 2 → parseFieldDescriptor (TE k).2.2.1 = some (tyE k) := by decide +kernel
theorem wsE_ok : ∀ w ∈ u_ws RE TE 2, w ∈ utbl := fun w h => u_mem ((show ∀ w ∈ u_ws RE TE 2, w ∈ lw_tbl by decide +kernel) w h) ((show ∀ w ∈ u_ws RE TE 2, goodWord w = true by decide +kernel) w h)
def RB : String := "ShortVectors$Basis"
def TB : u_T := fun k => match k with
  | 0 => ("ShortVectors$Basis", "rows", "[[J", true)
  | 1 => ("ShortVectors$Basis", "directions", "[[J", true)
  | 2 => ("ShortVectors$Basis", "directionSquares", "[J", true)
  | 3 => ("ShortVectors$Basis", "strides", "[J", true)
  | 4 => ("ShortVectors$Basis", "sums", "[[J", true)
  | 5 => ("ShortVectors$Basis", "minors", "[[J", true)
  | 6 => ("ShortVectors$Basis", "trial", "[J", true)
  | _ => ("ShortVectors$Basis", "size", "I", false)
def tyB : Nat → FieldType := fun k => match k with
  | 0 => .array (.array .long)
  | 1 => .array (.array .long)
  | 2 => .array .long
  | 3 => .array .long
  | 4 => .array (.array .long)
  | 5 => .array (.array .long)
  | 6 => .array .long
  | _ => .int
theorem nmB : ∀ a, a < 8 → ∀ b, b < 8 → a ≠ b → (TB a).2.1 ≠ (TB b).2.1 := by decide +kernel
theorem tyB_ok : ∀ k, k < 8 → parseFieldDescriptor (TB k).2.2.1 = some (tyB k) := by decide +kernel
theorem wsB_ok : ∀ w ∈ u_ws RB TB 8, w ∈ utbl := fun w h => u_mem ((show ∀ w ∈ u_ws RB TB 8, w ∈ lw_tbl by decide +kernel) w h) ((show ∀ w ∈ u_ws RB TB 8, goodWord w = true by decide +kernel) w h)
def RT : String := "ShortVectors$Tally"
def TT : u_T := fun k => match k with
  | 0 => ("ShortVectors$Collector", "goal", "[J", true)
  | 1 => ("ShortVectors$Collector", "budget", "J", false)
  | _ => ("ShortVectors$Tally", "sums", "[I", true)
def tyT : Nat → FieldType := fun k => match k with
  | 0 => .array .long
  | 1 => .long
  | _ => .array .int
theorem nmT : ∀ a, a < 3 → ∀ b, b < 3 → a ≠ b → (TT a).2.1 ≠ (TT b).2.1 := by decide +kernel
theorem tyT_ok : ∀ k, k < 3 → parseFieldDescriptor (TT k).2.2.1 = some (tyT k) := by decide +kernel
theorem wsT_ok : ∀ w ∈ u_ws RT TT 3, w ∈ utbl := fun w h => u_mem ((show ∀ w ∈ u_ws RT TT 3, w ∈ lw_tbl by decide +kernel) w h) ((show ∀ w ∈ u_ws RT TT 3, goodWord w = true by decide +kernel) w h)
def RF : String := "ShortVectors$FirstVectors"
def TF : u_T := fun k => match k with
  | 0 => ("ShortVectors$Collector", "goal", "[J", true)
  | 1 => ("ShortVectors$Collector", "budget", "J", false)
  | 2 => ("ShortVectors$FirstVectors", "vectors", "[[J", true)
  | 3 => ("ShortVectors$FirstVectors", "squares", "[J", true)
  | _ => ("ShortVectors$FirstVectors", "listLength", "I", false)
def tyF : Nat → FieldType := fun k => match k with
  | 0 => .array .long
  | 1 => .long
  | 2 => .array (.array .long)
  | 3 => .array .long
  | _ => .int
theorem nmF : ∀ a, a < 5 → ∀ b, b < 5 → a ≠ b → (TF a).2.1 ≠ (TF b).2.1 := by decide +kernel
theorem tyF_ok : ∀ k, k < 5 → parseFieldDescriptor (TF k).2.2.1 = some (tyF k) := by decide +kernel
theorem wsF_ok : ∀ w ∈ u_ws RF TF 5, w ∈ utbl := fun w h => u_mem ((show ∀ w ∈ u_ws RF TF 5, w ∈ lw_tbl by decide +kernel) w h) ((show ∀ w ∈ u_ws RF TF 5, goodWord w = true by decide +kernel) w h)
def RC : String := "ShortVectors$Closest"
def TC : u_T := fun k => match k with
  | 0 => ("ShortVectors$Collector", "goal", "[J", true)
  | 1 => ("ShortVectors$Collector", "budget", "J", false)
  | 2 => ("ShortVectors$Closest", "best", "[J", true)
  | _ => ("ShortVectors$Closest", "bestSquare", "J", false)
def tyC : Nat → FieldType := fun k => match k with
  | 0 => .array .long
  | 1 => .long
  | 2 => .array .long
  | _ => .long
theorem nmC : ∀ a, a < 4 → ∀ b, b < 4 → a ≠ b → (TC a).2.1 ≠ (TC b).2.1 := by decide +kernel
theorem tyC_ok : ∀ k, k < 4 → parseFieldDescriptor (TC k).2.2.1 = some (tyC k) := by decide +kernel
theorem wsC_ok : ∀ w ∈ u_ws RC TC 4, w ∈ utbl := fun w h => u_mem ((show ∀ w ∈ u_ws RC TC 4, w ∈ lw_tbl by decide +kernel) w h) ((show ∀ w ∈ u_ws RC TC 4, goodWord w = true by decide +kernel) w h)
abbrev classes : List vw_C := [(RM, TM, 27), (RV, TV, 12), (RE, TE, 2), (RB, TB, 8), (RT, TT, 3), (RF, TF, 5), (RC, TC, 4)]
/-! the world: NW cells at fixed addresses, their contents a function of the place -/
def NW : Nat := 114
abbrev ctx : Type := (Nat → Nat) × ClassId × ClassId × ClassId
abbrev tysOf (κ : ctx) : List (ClassId × FieldType) := [(κ.2.1, .int), (κ.2.2.1, .long), (κ.2.2.2, .array .long)]
def wl (h : Nat → Nat) (L : Nat → va_E) : va_W := (List.range NW).map (fun k => (h k, L k))
theorem wl_get {h : Nat → Nat} {L : Nat → va_E} {k : Nat} (hk : k < NW) : (wl h L)[k]? = some (h k, L k) := by
  simp [wl, hk]
theorem wl_lt {h : Nat → Nat} {L : Nat → va_E} {k : Nat} {q : Nat × va_E} (hk : (wl h L)[k]? = some q) : k < NW ∧ q = (h k, L k) := by
  have h1 : k < (wl h L).length := (List.getElem?_eq_some_iff.mp hk).1
  have h2 : k < NW := by simpa [wl] using h1
  rw [wl_get h2] at hk
  exact ⟨h2, (Option.some.inj hk).symm⟩
theorem wl_set {h : Nat → Nat} {L : Nat → va_E} {k : Nat} {e : va_E} : (wl h L).set k (h k, e) = wl h (va_up L k e) := by
  apply List.ext_getElem?
  intro j
  by_cases hj : j < NW
  · rw [wl_get hj, List.getElem?_set]
    by_cases e1 : k = j
    · subst e1
      simp [wl, hj, va_up]
    · have : j ≠ k := fun q => e1 q.symm
      simp [e1, wl_get hj, va_up, this]
  · have h1 : (wl h (va_up L k e))[j]? = none := List.getElem?_eq_none (by simp [wl]; omega)
    have h2 : ((wl h L).set k (h k, e))[j]? = none := List.getElem?_eq_none (by simp [wl]; omega)
    rw [h1, h2]
theorem wl_D {h : Nat → Nat} {L : Nat → va_E} {A : Nat → Prop} (hi : ∀ i j, i < NW → j < NW → h i = h j → i = j) (hA : ∀ k, k < NW → A (h k)) : va_D A (wl h L) := by
  refine ⟨fun i j p q hp hq e => ?_, fun k q hk => ?_⟩
  · obtain ⟨a, rfl⟩ := wl_lt hp
    obtain ⟨b, rfl⟩ := wl_lt hq
    exact hi i j a b e
  · obtain ⟨a, rfl⟩ := wl_lt hk
    exact hA k a
theorem wl_A {h : Nat → Nat} {L : Nat → va_E} {sz : Nat} {k : Nat} (hk : k < NW) : va_A (wl h L) sz (h k) := Or.inl ⟨k, L k, wl_get hk⟩
theorem wl_Ain {h : Nat → Nat} {L : Nat → va_E} {sz : Nat} {A : Nat → Prop} (hA : ∀ k, k < NW → A (h k)) (hs : ∀ q, sz ≤ q → A q) : ∀ q, va_A (wl h L) sz q → A q := by
  intro q hq
  rcases hq with ⟨k, e, hk⟩ | hq
  · obtain ⟨a, b⟩ := wl_lt hk
    rw [(Prod.mk.inj b).1]
    exact hA k a
  · exact hs q hq
/-! the words of nest mates, carried beside the others -/
def isNest (w : Cond) : Bool := match w with | .methodLinkNest .. => true | .declares _ => true | _ => false
def NS (U : State) : Prop := ∀ w ∈ lw_tbl, isNest w = true → va_Nw w U
theorem NS.warm {s U : State} (hW : s.WarmedH U.vm) (h : NS s) : NS U := by
  intro w hw hn
  have h1 := h w hw hn
  cases w <;> first | exact va_Nw.warmM hW h1 | exact va_Nw.warmD hW h1 | (simp [isNest] at hn)
theorem NS.same {u U : State} (hv : u.vm = U.vm) (h : NS u) : NS U := by
  intro w hw hn
  have h1 := h w hw hn
  cases w <;> first | exact va_Nw.same rfl hv h1 | (simp [isNest] at hn)
/-! the judgement -/
abbrev Gm : Type := Program × Launch × Env × Room × State × MethodId × Array Value × List Frame × Method × Code × Nat × Nat × (State → Prop) × va_G × (Nat → Prop)
def J (g : Gm) (κ : ctx) (nL : Nat) (pc : Nat) (lv : List (Nat × Value)) (st : List Value) (L : Nat → va_E) : Prop :=
  match g with
  | (p, l, e, R, s, m, args, below, meth, c, cells, slots, Q, D, A) => ∀ (H : Heap) (locs : List Loc) (ls : Array Slot), va_P D classes (wl κ.1 L) H → va_S A s.heap H locs → lv_has ls nL lv → W p l e R s m args below meth c H locs cells slots Q (F0 m pc ls st)
def OK (g : Gm) (κ : ctx) (own : String) (cc : ByteArray) (nL : Nat) (ret : Option FieldType) (rm : Room) : Prop :=
  match g with
  | (p, _, _, R, s, m, args, _, meth, c, cells, slots, _, D, A) => p.tables.exec = Jvm.exec ∧ c.code = cc ∧ c.maxLocals = nL ∧ meth.sig.returnType = ret ∧ meth.locks = false ∧ s.vm.findClass own = some m.cls ∧ (∀ w ∈ utbl, w.before args s = true) ∧ va_K D classes (tysOf κ) s ∧ NS s ∧ (∀ i j, i < NW → j < NW → κ.1 i = κ.1 j → i = j) ∧ (∀ k, k < NW → A (κ.1 k)) ∧ (∀ q, s.heap.size ≤ q → A q) ∧ cells ≤ R.cells ∧ slots ≤ R.slots ∧ R = rm
def Qx (D : va_G) (κ : ctx) (A : Nat → Prop) (v : Option Value) (L' : Nat → va_E) : Array Value → State → Outcome → State → Prop := fun _ st oc t => (oc = .returned v ∧ va_P D classes (wl κ.1 L') t.heap) ∧ va_F A st t
/-- a return of v with the world L' is what the method's contract asks -/
def Fn (g : Gm) (κ : ctx) (v : Option Value) (L' : Nat → va_E) : Prop :=
  match g with
  | (_, _, _, _, s, _, args, below, _, _, cells, slots, Q, D, A) => Q = MQ below (Qx D κ A v L') args s cells slots A
def Pre (D : va_G) (κ : ctx) (L : Nat → va_E) (sz : Nat) (U : State) : Prop := U.heap.size = sz ∧ va_P D classes (wl κ.1 L) U.heap ∧ va_K D classes (tysOf κ) U ∧ NS U ∧ (∀ i j, i < NW → j < NW → κ.1 i = κ.1 j → i = j)
/-- THE CONTRACT: from the world L with the arguments av the method returns v with the world L' -/
def Mt (y : MethodName) (b : ByteArray) (nL : Nat) (ret : Option FieldType) (rm : Room) (κ : ctx) (av : List Value) (L : Nat → va_E) (v : Option Value) (L' : Nat → va_E) : Prop :=
  ∀ (l : Launch) (D : va_G) (sz : Nat), Met l y (uw y b nL ret) rm (va_Pc av (Pre D κ L sz)) (Qx D κ (va_A (wl κ.1 L) sz) v L') 0 0 (va_A (wl κ.1 L) sz)
theorem Mt.of {y : MethodName} {b : ByteArray} {nL : Nat} {ret : Option FieldType} {rm : Room} {κ : ctx} {av : List Value} {L L' : Nat → va_E} {v : Option Value} (hy : plainName y.cls = true) (hn : (lg_sl av).length ≤ nL)
    (body : ∀ g : Gm, OK g κ y.cls b nL ret rm → Fn g κ v L' → J g κ nL 0 (lv_args 0 av) [] L) : Mt y b nL ret rm κ av L v L' := by
  intro l D sz
  refine Met.ofW (cc := b) (maxL := nL) (ret := ret) hy rfl ?_
  intro p e s m args below meth c s₁ B hml hv
  obtain ⟨rfl, hsz, hP, hK, hN, hi⟩ := hv
  have hts := atoms_spec (ws := uw y b nL ret) B.pre
  have hown : s.vm.findClass y.cls = some m.cls := findClass_of_methodNamed B.named
  subst hsz
  have hl := lv_entry av (n := nL) hn
  rw [lg_entry_eq]
  exact body (p, l, e, rm, s, m, av.toArray, below, meth, c, 0, 0, MQ below (Qx D κ (va_A (wl κ.1 L) s.heap.size) v L') av.toArray s 0 0 (va_A (wl κ.1 L) s.heap.size), D, va_A (wl κ.1 L) s.heap.size)
    ⟨B.exec, B.bytes, hml, B.returns, B.notSynchronized, hown, fun w hw => hts w (List.mem_cons_of_mem _ hw), hK, hN, hi, fun k hk => wl_A hk, fun q hq => Or.inr hq, Nat.zero_le _, Nat.zero_le _, rfl⟩ rfl _ _ _ hP va_S.rf hl
end
section
theorem w_iconst {g : Gm} {κ : ctx} {own : String} {cc : ByteArray} {nL : Nat} {ret : Option FieldType} {rm : Room} (G : OK g κ own cc nL ret rm) {pc : Nat} {lv : List (Nat × Value)} {rest : List Value} {L : Nat → va_E} {n : Int} {v : Int32} (hd : decode cc pc = .ok (.iconst n, 1)) (hv : Int32.ofInt n = v) (k : J g κ nL (pc + 1) lv (.int v :: rest) L) : J g κ nL pc lv (rest) L := by
  obtain ⟨p, l, e, R, s, m, args, below, meth, c, cells, slots, Q, D, A⟩ := g
  obtain ⟨hx, hb, hml, hr, hlk, hown, hts, hK, hN, hi, hA1, hA2, hc, hs, hR⟩ := G
  intro H locs ls hP hS hl
  exact lv_iconst hx hb hd hv (k H locs ls hP hS hl)
theorem w_bipush {g : Gm} {κ : ctx} {own : String} {cc : ByteArray} {nL : Nat} {ret : Option FieldType} {rm : Room} (G : OK g κ own cc nL ret rm) {pc : Nat} {lv : List (Nat × Value)} {rest : List Value} {L : Nat → va_E} {n : Int} {v : Int32} (hd : decode cc pc = .ok (.bipush n, 2)) (hv : (Int8.ofInt n).toInt32 = v) (k : J g κ nL (pc + 2) lv (.int v :: rest) L) : J g κ nL pc lv (rest) L := by
  obtain ⟨p, l, e, R, s, m, args, below, meth, c, cells, slots, Q, D, A⟩ := g
  obtain ⟨hx, hb, hml, hr, hlk, hown, hts, hK, hN, hi, hA1, hA2, hc, hs, hR⟩ := G
  intro H locs ls hP hS hl
  exact lv_bipush hx hb hd hv (k H locs ls hP hS hl)
theorem w_sipush {g : Gm} {κ : ctx} {own : String} {cc : ByteArray} {nL : Nat} {ret : Option FieldType} {rm : Room} (G : OK g κ own cc nL ret rm) {pc : Nat} {lv : List (Nat × Value)} {rest : List Value} {L : Nat → va_E} {n : Int} {v : Int32} (hd : decode cc pc = .ok (.sipush n, 3)) (hv : (Int16.ofInt n).toInt32 = v) (k : J g κ nL (pc + 3) lv (.int v :: rest) L) : J g κ nL pc lv (rest) L := by
  obtain ⟨p, l, e, R, s, m, args, below, meth, c, cells, slots, Q, D, A⟩ := g
  obtain ⟨hx, hb, hml, hr, hlk, hown, hts, hK, hN, hi, hA1, hA2, hc, hs, hR⟩ := G
  intro H locs ls hP hS hl
  exact lv_sipush hx hb hd hv (k H locs ls hP hS hl)
theorem w_lconst {g : Gm} {κ : ctx} {own : String} {cc : ByteArray} {nL : Nat} {ret : Option FieldType} {rm : Room} (G : OK g κ own cc nL ret rm) {pc : Nat} {lv : List (Nat × Value)} {rest : List Value} {L : Nat → va_E} {n : Fin 2} {v : Int64} (hd : decode cc pc = .ok (.lconst n, 1)) (hv : Int64.ofNat (n : Nat) = v) (k : J g κ nL (pc + 1) lv (.long v :: rest) L) : J g κ nL pc lv (rest) L := by
  obtain ⟨p, l, e, R, s, m, args, below, meth, c, cells, slots, Q, D, A⟩ := g
  obtain ⟨hx, hb, hml, hr, hlk, hown, hts, hK, hN, hi, hA1, hA2, hc, hs, hR⟩ := G
  intro H locs ls hP hS hl
  exact lv_lconst hx hb hd hv (k H locs ls hP hS hl)
theorem w_iload_n {g : Gm} {κ : ctx} {own : String} {cc : ByteArray} {nL : Nat} {ret : Option FieldType} {rm : Room} (G : OK g κ own cc nL ret rm) {pc : Nat} {lv : List (Nat × Value)} {rest : List Value} {L : Nat → va_E} {k0 : Fin 4} {i q : Nat} {x : Int32} (hd : decode cc pc = .ok (.iload_n k0, 1)) (h0 : (k0 : Nat) = i) (hq : lv[q]? = some (i, .int x)) (k : J g κ nL (pc + 1) lv (.int x :: rest) L) : J g κ nL pc lv (rest) L := by
  obtain ⟨p, l, e, R, s, m, args, below, meth, c, cells, slots, Q, D, A⟩ := g
  obtain ⟨hx, hb, hml, hr, hlk, hown, hts, hK, hN, hi, hA1, hA2, hc, hs, hR⟩ := G
  intro H locs ls hP hS hl
  exact lv_iload_n hx hb hd h0 (lv_at hl q hq) (k H locs ls hP hS hl)
theorem w_iload {g : Gm} {κ : ctx} {own : String} {cc : ByteArray} {nL : Nat} {ret : Option FieldType} {rm : Room} (G : OK g κ own cc nL ret rm) {pc : Nat} {lv : List (Nat × Value)} {rest : List Value} {L : Nat → va_E} {i q : Nat} {x : Int32} (hd : decode cc pc = .ok (.iload i, 2)) (hq : lv[q]? = some (i, .int x)) (k : J g κ nL (pc + 2) lv (.int x :: rest) L) : J g κ nL pc lv (rest) L := by
  obtain ⟨p, l, e, R, s, m, args, below, meth, c, cells, slots, Q, D, A⟩ := g
  obtain ⟨hx, hb, hml, hr, hlk, hown, hts, hK, hN, hi, hA1, hA2, hc, hs, hR⟩ := G
  intro H locs ls hP hS hl
  exact lv_iload hx hb hd (lv_at hl q hq) (k H locs ls hP hS hl)
theorem w_istore_n {g : Gm} {κ : ctx} {own : String} {cc : ByteArray} {nL : Nat} {ret : Option FieldType} {rm : Room} (G : OK g κ own cc nL ret rm) {pc : Nat} {lv : List (Nat × Value)} {rest : List Value} {L : Nat → va_E} {k0 : Fin 4} {i : Nat} {x : Int32} {lv' : List (Nat × Value)} (hd : decode cc pc = .ok (.istore_n k0, 1)) (h0 : (k0 : Nat) = i) (hn : i < nL) (hv : (i, Value.int x) :: lv.filter (fun q => !(q.1 == i) && !(q.1 + 1 == i && q.2.category == 2)) = lv') (k : J g κ nL (pc + 1) lv' rest L) : J g κ nL pc lv (.int x :: rest) L := by
  obtain ⟨p, l, e, R, s, m, args, below, meth, c, cells, slots, Q, D, A⟩ := g
  obtain ⟨hx, hb, hml, hr, hlk, hown, hts, hK, hN, hi, hA1, hA2, hc, hs, hR⟩ := G
  intro H locs ls hP hS hl
  exact lv_istore_n hx hb hd h0 hl hn hv (fun ls' hl' => k H locs ls' hP hS hl')
theorem w_istore {g : Gm} {κ : ctx} {own : String} {cc : ByteArray} {nL : Nat} {ret : Option FieldType} {rm : Room} (G : OK g κ own cc nL ret rm) {pc : Nat} {lv : List (Nat × Value)} {rest : List Value} {L : Nat → va_E} {i : Nat} {x : Int32} {lv' : List (Nat × Value)} (hd : decode cc pc = .ok (.istore i, 2)) (hn : i < nL) (hv : (i, Value.int x) :: lv.filter (fun q => !(q.1 == i) && !(q.1 + 1 == i && q.2.category == 2)) = lv') (k : J g κ nL (pc + 2) lv' rest L) : J g κ nL pc lv (.int x :: rest) L := by
  obtain ⟨p, l, e, R, s, m, args, below, meth, c, cells, slots, Q, D, A⟩ := g
  obtain ⟨hx, hb, hml, hr, hlk, hown, hts, hK, hN, hi, hA1, hA2, hc, hs, hR⟩ := G
  intro H locs ls hP hS hl
  exact lv_istore hx hb hd hl hn hv (fun ls' hl' => k H locs ls' hP hS hl')
theorem w_lload_n {g : Gm} {κ : ctx} {own : String} {cc : ByteArray} {nL : Nat} {ret : Option FieldType} {rm : Room} (G : OK g κ own cc nL ret rm) {pc : Nat} {lv : List (Nat × Value)} {rest : List Value} {L : Nat → va_E} {k0 : Fin 4} {i q : Nat} {x : Int64} (hd : decode cc pc = .ok (.lload_n k0, 1)) (h0 : (k0 : Nat) = i) (hq : lv[q]? = some (i, .long x)) (k : J g κ nL (pc + 1) lv (.long x :: rest) L) : J g κ nL pc lv (rest) L := by
  obtain ⟨p, l, e, R, s, m, args, below, meth, c, cells, slots, Q, D, A⟩ := g
  obtain ⟨hx, hb, hml, hr, hlk, hown, hts, hK, hN, hi, hA1, hA2, hc, hs, hR⟩ := G
  intro H locs ls hP hS hl
  exact lv_lload_n hx hb hd h0 (lv_at hl q hq) (k H locs ls hP hS hl)
theorem w_lload {g : Gm} {κ : ctx} {own : String} {cc : ByteArray} {nL : Nat} {ret : Option FieldType} {rm : Room} (G : OK g κ own cc nL ret rm) {pc : Nat} {lv : List (Nat × Value)} {rest : List Value} {L : Nat → va_E} {i q : Nat} {x : Int64} (hd : decode cc pc = .ok (.lload i, 2)) (hq : lv[q]? = some (i, .long x)) (k : J g κ nL (pc + 2) lv (.long x :: rest) L) : J g κ nL pc lv (rest) L := by
  obtain ⟨p, l, e, R, s, m, args, below, meth, c, cells, slots, Q, D, A⟩ := g
  obtain ⟨hx, hb, hml, hr, hlk, hown, hts, hK, hN, hi, hA1, hA2, hc, hs, hR⟩ := G
  intro H locs ls hP hS hl
  exact lv_lload hx hb hd (lv_at hl q hq) (k H locs ls hP hS hl)
theorem w_lstore_n {g : Gm} {κ : ctx} {own : String} {cc : ByteArray} {nL : Nat} {ret : Option FieldType} {rm : Room} (G : OK g κ own cc nL ret rm) {pc : Nat} {lv : List (Nat × Value)} {rest : List Value} {L : Nat → va_E} {k0 : Fin 4} {i : Nat} {x : Int64} {lv' : List (Nat × Value)} (hd : decode cc pc = .ok (.lstore_n k0, 1)) (h0 : (k0 : Nat) = i) (hn : i + 1 < nL) (hv : (i, Value.long x) :: lv.filter (fun q => !(q.1 == i) && (!(q.1 == i + 1) && !(q.1 + 1 == i && q.2.category == 2))) = lv') (k : J g κ nL (pc + 1) lv' rest L) : J g κ nL pc lv (.long x :: rest) L := by
  obtain ⟨p, l, e, R, s, m, args, below, meth, c, cells, slots, Q, D, A⟩ := g
  obtain ⟨hx, hb, hml, hr, hlk, hown, hts, hK, hN, hi, hA1, hA2, hc, hs, hR⟩ := G
  intro H locs ls hP hS hl
  exact lv_lstore_n hx hb hd h0 hl hn hv (fun ls' hl' => k H locs ls' hP hS hl')
theorem w_lstore {g : Gm} {κ : ctx} {own : String} {cc : ByteArray} {nL : Nat} {ret : Option FieldType} {rm : Room} (G : OK g κ own cc nL ret rm) {pc : Nat} {lv : List (Nat × Value)} {rest : List Value} {L : Nat → va_E} {i : Nat} {x : Int64} {lv' : List (Nat × Value)} (hd : decode cc pc = .ok (.lstore i, 2)) (hn : i + 1 < nL) (hv : (i, Value.long x) :: lv.filter (fun q => !(q.1 == i) && (!(q.1 == i + 1) && !(q.1 + 1 == i && q.2.category == 2))) = lv') (k : J g κ nL (pc + 2) lv' rest L) : J g κ nL pc lv (.long x :: rest) L := by
  obtain ⟨p, l, e, R, s, m, args, below, meth, c, cells, slots, Q, D, A⟩ := g
  obtain ⟨hx, hb, hml, hr, hlk, hown, hts, hK, hN, hi, hA1, hA2, hc, hs, hR⟩ := G
  intro H locs ls hP hS hl
  exact lv_lstore hx hb hd hl hn hv (fun ls' hl' => k H locs ls' hP hS hl')
theorem w_aload_n {g : Gm} {κ : ctx} {own : String} {cc : ByteArray} {nL : Nat} {ret : Option FieldType} {rm : Room} (G : OK g κ own cc nL ret rm) {pc : Nat} {lv : List (Nat × Value)} {rest : List Value} {L : Nat → va_E} {k0 : Fin 4} {i q : Nat} {x : Nat} (hd : decode cc pc = .ok (.aload_n k0, 1)) (h0 : (k0 : Nat) = i) (hq : lv[q]? = some (i, .ref x)) (k : J g κ nL (pc + 1) lv (.ref x :: rest) L) : J g κ nL pc lv (rest) L := by
  obtain ⟨p, l, e, R, s, m, args, below, meth, c, cells, slots, Q, D, A⟩ := g
  obtain ⟨hx, hb, hml, hr, hlk, hown, hts, hK, hN, hi, hA1, hA2, hc, hs, hR⟩ := G
  intro H locs ls hP hS hl
  exact lv_aload_n hx hb hd h0 (lv_at hl q hq) (k H locs ls hP hS hl)
theorem w_aload {g : Gm} {κ : ctx} {own : String} {cc : ByteArray} {nL : Nat} {ret : Option FieldType} {rm : Room} (G : OK g κ own cc nL ret rm) {pc : Nat} {lv : List (Nat × Value)} {rest : List Value} {L : Nat → va_E} {i q : Nat} {x : Nat} (hd : decode cc pc = .ok (.aload i, 2)) (hq : lv[q]? = some (i, .ref x)) (k : J g κ nL (pc + 2) lv (.ref x :: rest) L) : J g κ nL pc lv (rest) L := by
  obtain ⟨p, l, e, R, s, m, args, below, meth, c, cells, slots, Q, D, A⟩ := g
  obtain ⟨hx, hb, hml, hr, hlk, hown, hts, hK, hN, hi, hA1, hA2, hc, hs, hR⟩ := G
  intro H locs ls hP hS hl
  exact lv_aload hx hb hd (lv_at hl q hq) (k H locs ls hP hS hl)
theorem w_astore_n {g : Gm} {κ : ctx} {own : String} {cc : ByteArray} {nL : Nat} {ret : Option FieldType} {rm : Room} (G : OK g κ own cc nL ret rm) {pc : Nat} {lv : List (Nat × Value)} {rest : List Value} {L : Nat → va_E} {k0 : Fin 4} {i : Nat} {x : Nat} {lv' : List (Nat × Value)} (hd : decode cc pc = .ok (.astore_n k0, 1)) (h0 : (k0 : Nat) = i) (hn : i < nL) (hv : (i, Value.ref x) :: lv.filter (fun q => !(q.1 == i) && !(q.1 + 1 == i && q.2.category == 2)) = lv') (k : J g κ nL (pc + 1) lv' rest L) : J g κ nL pc lv (.ref x :: rest) L := by
  obtain ⟨p, l, e, R, s, m, args, below, meth, c, cells, slots, Q, D, A⟩ := g
  obtain ⟨hx, hb, hml, hr, hlk, hown, hts, hK, hN, hi, hA1, hA2, hc, hs, hR⟩ := G
  intro H locs ls hP hS hl
  exact lv_astore_n hx hb hd h0 hl hn hv (fun ls' hl' => k H locs ls' hP hS hl')
theorem w_astore {g : Gm} {κ : ctx} {own : String} {cc : ByteArray} {nL : Nat} {ret : Option FieldType} {rm : Room} (G : OK g κ own cc nL ret rm) {pc : Nat} {lv : List (Nat × Value)} {rest : List Value} {L : Nat → va_E} {i : Nat} {x : Nat} {lv' : List (Nat × Value)} (hd : decode cc pc = .ok (.astore i, 2)) (hn : i < nL) (hv : (i, Value.ref x) :: lv.filter (fun q => !(q.1 == i) && !(q.1 + 1 == i && q.2.category == 2)) = lv') (k : J g κ nL (pc + 2) lv' rest L) : J g κ nL pc lv (.ref x :: rest) L := by
  obtain ⟨p, l, e, R, s, m, args, below, meth, c, cells, slots, Q, D, A⟩ := g
  obtain ⟨hx, hb, hml, hr, hlk, hown, hts, hK, hN, hi, hA1, hA2, hc, hs, hR⟩ := G
  intro H locs ls hP hS hl
  exact lv_astore hx hb hd hl hn hv (fun ls' hl' => k H locs ls' hP hS hl')
theorem w_iinc {g : Gm} {κ : ctx} {own : String} {cc : ByteArray} {nL : Nat} {ret : Option FieldType} {rm : Room} (G : OK g κ own cc nL ret rm) {pc : Nat} {lv : List (Nat × Value)} {rest : List Value} {L : Nat → va_E} {i q0 : Nat} {n : Int} {x v : Int32} {lv' : List (Nat × Value)} (hd : decode cc pc = .ok (.iinc i n, 3)) (hq : lv[q0]? = some (i, .int x)) (hv : x + Int32.ofInt n = v) (hn : i < nL) (hl' : (i, Value.int v) :: lv.filter (fun q => !(q.1 == i) && !(q.1 + 1 == i && q.2.category == 2)) = lv') (k : J g κ nL (pc + 3) lv' rest L) : J g κ nL pc lv rest L := by
  obtain ⟨p, l, e, R, s, m, args, below, meth, c, cells, slots, Q, D, A⟩ := g
  obtain ⟨hx, hb, hml, hr, hlk, hown, hts, hK, hN, hi, hA1, hA2, hc, hs, hR⟩ := G
  intro H locs ls hP hS hl
  exact lv_iinc hx hb hd hl hq hv hn hl' (fun ls1 hl1 => k H locs ls1 hP hS hl1)
theorem w_iadd {g : Gm} {κ : ctx} {own : String} {cc : ByteArray} {nL : Nat} {ret : Option FieldType} {rm : Room} (G : OK g κ own cc nL ret rm) {pc : Nat} {lv : List (Nat × Value)} {rest : List Value} {L : Nat → va_E} {x y : Int32} (hd : decode cc pc = .ok (.iadd, 1)) (k : J g κ nL (pc + 1) lv (.int (x + y) :: rest) L) : J g κ nL pc lv (.int y :: .int x :: rest) L := by
  obtain ⟨p, l, e, R, s, m, args, below, meth, c, cells, slots, Q, D, A⟩ := g
  obtain ⟨hx, hb, hml, hr, hlk, hown, hts, hK, hN, hi, hA1, hA2, hc, hs, hR⟩ := G
  intro H locs ls hP hS hl
  exact lv_iadd hx hb hd (k H locs ls hP hS hl)
theorem w_isub {g : Gm} {κ : ctx} {own : String} {cc : ByteArray} {nL : Nat} {ret : Option FieldType} {rm : Room} (G : OK g κ own cc nL ret rm) {pc : Nat} {lv : List (Nat × Value)} {rest : List Value} {L : Nat → va_E} {x y : Int32} (hd : decode cc pc = .ok (.isub, 1)) (k : J g κ nL (pc + 1) lv (.int (x - y) :: rest) L) : J g κ nL pc lv (.int y :: .int x :: rest) L := by
  obtain ⟨p, l, e, R, s, m, args, below, meth, c, cells, slots, Q, D, A⟩ := g
  obtain ⟨hx, hb, hml, hr, hlk, hown, hts, hK, hN, hi, hA1, hA2, hc, hs, hR⟩ := G
  intro H locs ls hP hS hl
  exact lv_isub hx hb hd (k H locs ls hP hS hl)
theorem w_imul {g : Gm} {κ : ctx} {own : String} {cc : ByteArray} {nL : Nat} {ret : Option FieldType} {rm : Room} (G : OK g κ own cc nL ret rm) {pc : Nat} {lv : List (Nat × Value)} {rest : List Value} {L : Nat → va_E} {x y : Int32} (hd : decode cc pc = .ok (.imul, 1)) (k : J g κ nL (pc + 1) lv (.int (x * y) :: rest) L) : J g κ nL pc lv (.int y :: .int x :: rest) L := by
  obtain ⟨p, l, e, R, s, m, args, below, meth, c, cells, slots, Q, D, A⟩ := g
  obtain ⟨hx, hb, hml, hr, hlk, hown, hts, hK, hN, hi, hA1, hA2, hc, hs, hR⟩ := G
  intro H locs ls hP hS hl
  exact lv_imul hx hb hd (k H locs ls hP hS hl)
theorem w_iand {g : Gm} {κ : ctx} {own : String} {cc : ByteArray} {nL : Nat} {ret : Option FieldType} {rm : Room} (G : OK g κ own cc nL ret rm) {pc : Nat} {lv : List (Nat × Value)} {rest : List Value} {L : Nat → va_E} {x y : Int32} (hd : decode cc pc = .ok (.iand, 1)) (k : J g κ nL (pc + 1) lv (.int (x &&& y) :: rest) L) : J g κ nL pc lv (.int y :: .int x :: rest) L := by
  obtain ⟨p, l, e, R, s, m, args, below, meth, c, cells, slots, Q, D, A⟩ := g
  obtain ⟨hx, hb, hml, hr, hlk, hown, hts, hK, hN, hi, hA1, hA2, hc, hs, hR⟩ := G
  intro H locs ls hP hS hl
  exact lv_iand hx hb hd (k H locs ls hP hS hl)
theorem w_ladd {g : Gm} {κ : ctx} {own : String} {cc : ByteArray} {nL : Nat} {ret : Option FieldType} {rm : Room} (G : OK g κ own cc nL ret rm) {pc : Nat} {lv : List (Nat × Value)} {rest : List Value} {L : Nat → va_E} {x y : Int64} (hd : decode cc pc = .ok (.ladd, 1)) (k : J g κ nL (pc + 1) lv (.long (x + y) :: rest) L) : J g κ nL pc lv (.long y :: .long x :: rest) L := by
  obtain ⟨p, l, e, R, s, m, args, below, meth, c, cells, slots, Q, D, A⟩ := g
  obtain ⟨hx, hb, hml, hr, hlk, hown, hts, hK, hN, hi, hA1, hA2, hc, hs, hR⟩ := G
  intro H locs ls hP hS hl
  exact lv_ladd hx hb hd (k H locs ls hP hS hl)
theorem w_lsub {g : Gm} {κ : ctx} {own : String} {cc : ByteArray} {nL : Nat} {ret : Option FieldType} {rm : Room} (G : OK g κ own cc nL ret rm) {pc : Nat} {lv : List (Nat × Value)} {rest : List Value} {L : Nat → va_E} {x y : Int64} (hd : decode cc pc = .ok (.lsub, 1)) (k : J g κ nL (pc + 1) lv (.long (x - y) :: rest) L) : J g κ nL pc lv (.long y :: .long x :: rest) L := by
  obtain ⟨p, l, e, R, s, m, args, below, meth, c, cells, slots, Q, D, A⟩ := g
  obtain ⟨hx, hb, hml, hr, hlk, hown, hts, hK, hN, hi, hA1, hA2, hc, hs, hR⟩ := G
  intro H locs ls hP hS hl
  exact lv_lsub hx hb hd (k H locs ls hP hS hl)
theorem w_lmul {g : Gm} {κ : ctx} {own : String} {cc : ByteArray} {nL : Nat} {ret : Option FieldType} {rm : Room} (G : OK g κ own cc nL ret rm) {pc : Nat} {lv : List (Nat × Value)} {rest : List Value} {L : Nat → va_E} {x y : Int64} (hd : decode cc pc = .ok (.lmul, 1)) (k : J g κ nL (pc + 1) lv (.long (x * y) :: rest) L) : J g κ nL pc lv (.long y :: .long x :: rest) L := by
  obtain ⟨p, l, e, R, s, m, args, below, meth, c, cells, slots, Q, D, A⟩ := g
  obtain ⟨hx, hb, hml, hr, hlk, hown, hts, hK, hN, hi, hA1, hA2, hc, hs, hR⟩ := G
  intro H locs ls hP hS hl
  exact lv_lmul hx hb hd (k H locs ls hP hS hl)
theorem w_lxor {g : Gm} {κ : ctx} {own : String} {cc : ByteArray} {nL : Nat} {ret : Option FieldType} {rm : Room} (G : OK g κ own cc nL ret rm) {pc : Nat} {lv : List (Nat × Value)} {rest : List Value} {L : Nat → va_E} {x y : Int64} (hd : decode cc pc = .ok (.lxor, 1)) (k : J g κ nL (pc + 1) lv (.long (x ^^^ y) :: rest) L) : J g κ nL pc lv (.long y :: .long x :: rest) L := by
  obtain ⟨p, l, e, R, s, m, args, below, meth, c, cells, slots, Q, D, A⟩ := g
  obtain ⟨hx, hb, hml, hr, hlk, hown, hts, hK, hN, hi, hA1, hA2, hc, hs, hR⟩ := G
  intro H locs ls hP hS hl
  exact lv_lxor hx hb hd (k H locs ls hP hS hl)
theorem w_idiv {g : Gm} {κ : ctx} {own : String} {cc : ByteArray} {nL : Nat} {ret : Option FieldType} {rm : Room} (G : OK g κ own cc nL ret rm) {pc : Nat} {lv : List (Nat × Value)} {rest : List Value} {L : Nat → va_E} {x y : Int32} (hd : decode cc pc = .ok (.idiv, 1)) (hne : ¬ y = 0) (k : J g κ nL (pc + 1) lv (.int (x / y) :: rest) L) : J g κ nL pc lv (.int y :: .int x :: rest) L := by
  obtain ⟨p, l, e, R, s, m, args, below, meth, c, cells, slots, Q, D, A⟩ := g
  obtain ⟨hx, hb, hml, hr, hlk, hown, hts, hK, hN, hi, hA1, hA2, hc, hs, hR⟩ := G
  intro H locs ls hP hS hl
  exact lv_idiv hx hb hd hne (k H locs ls hP hS hl)
theorem w_irem {g : Gm} {κ : ctx} {own : String} {cc : ByteArray} {nL : Nat} {ret : Option FieldType} {rm : Room} (G : OK g κ own cc nL ret rm) {pc : Nat} {lv : List (Nat × Value)} {rest : List Value} {L : Nat → va_E} {x y : Int32} (hd : decode cc pc = .ok (.irem, 1)) (hne : ¬ y = 0) (k : J g κ nL (pc + 1) lv (.int (x - x / y * y) :: rest) L) : J g κ nL pc lv (.int y :: .int x :: rest) L := by
  obtain ⟨p, l, e, R, s, m, args, below, meth, c, cells, slots, Q, D, A⟩ := g
  obtain ⟨hx, hb, hml, hr, hlk, hown, hts, hK, hN, hi, hA1, hA2, hc, hs, hR⟩ := G
  intro H locs ls hP hS hl
  exact lv_irem hx hb hd hne (k H locs ls hP hS hl)
theorem w_ldiv {g : Gm} {κ : ctx} {own : String} {cc : ByteArray} {nL : Nat} {ret : Option FieldType} {rm : Room} (G : OK g κ own cc nL ret rm) {pc : Nat} {lv : List (Nat × Value)} {rest : List Value} {L : Nat → va_E} {x y : Int64} (hd : decode cc pc = .ok (.ldiv, 1)) (hne : ¬ y = 0) (k : J g κ nL (pc + 1) lv (.long (x / y) :: rest) L) : J g κ nL pc lv (.long y :: .long x :: rest) L := by
  obtain ⟨p, l, e, R, s, m, args, below, meth, c, cells, slots, Q, D, A⟩ := g
  obtain ⟨hx, hb, hml, hr, hlk, hown, hts, hK, hN, hi, hA1, hA2, hc, hs, hR⟩ := G
  intro H locs ls hP hS hl
  exact lv_ldiv hx hb hd hne (k H locs ls hP hS hl)
theorem w_lrem {g : Gm} {κ : ctx} {own : String} {cc : ByteArray} {nL : Nat} {ret : Option FieldType} {rm : Room} (G : OK g κ own cc nL ret rm) {pc : Nat} {lv : List (Nat × Value)} {rest : List Value} {L : Nat → va_E} {x y : Int64} (hd : decode cc pc = .ok (.lrem, 1)) (hne : ¬ y = 0) (k : J g κ nL (pc + 1) lv (.long (x - x / y * y) :: rest) L) : J g κ nL pc lv (.long y :: .long x :: rest) L := by
  obtain ⟨p, l, e, R, s, m, args, below, meth, c, cells, slots, Q, D, A⟩ := g
  obtain ⟨hx, hb, hml, hr, hlk, hown, hts, hK, hN, hi, hA1, hA2, hc, hs, hR⟩ := G
  intro H locs ls hP hS hl
  exact lv_lrem hx hb hd hne (k H locs ls hP hS hl)
theorem w_ineg {g : Gm} {κ : ctx} {own : String} {cc : ByteArray} {nL : Nat} {ret : Option FieldType} {rm : Room} (G : OK g κ own cc nL ret rm) {pc : Nat} {lv : List (Nat × Value)} {rest : List Value} {L : Nat → va_E} {x : Int32} (hd : decode cc pc = .ok (.ineg, 1)) (k : J g κ nL (pc + 1) lv (.int (-x) :: rest) L) : J g κ nL pc lv (.int x :: rest) L := by
  obtain ⟨p, l, e, R, s, m, args, below, meth, c, cells, slots, Q, D, A⟩ := g
  obtain ⟨hx, hb, hml, hr, hlk, hown, hts, hK, hN, hi, hA1, hA2, hc, hs, hR⟩ := G
  intro H locs ls hP hS hl
  exact lv_ineg hx hb hd (k H locs ls hP hS hl)
theorem w_lneg {g : Gm} {κ : ctx} {own : String} {cc : ByteArray} {nL : Nat} {ret : Option FieldType} {rm : Room} (G : OK g κ own cc nL ret rm) {pc : Nat} {lv : List (Nat × Value)} {rest : List Value} {L : Nat → va_E} {x : Int64} (hd : decode cc pc = .ok (.lneg, 1)) (k : J g κ nL (pc + 1) lv (.long (-x) :: rest) L) : J g κ nL pc lv (.long x :: rest) L := by
  obtain ⟨p, l, e, R, s, m, args, below, meth, c, cells, slots, Q, D, A⟩ := g
  obtain ⟨hx, hb, hml, hr, hlk, hown, hts, hK, hN, hi, hA1, hA2, hc, hs, hR⟩ := G
  intro H locs ls hP hS hl
  exact lv_lneg hx hb hd (k H locs ls hP hS hl)
theorem w_i2l {g : Gm} {κ : ctx} {own : String} {cc : ByteArray} {nL : Nat} {ret : Option FieldType} {rm : Room} (G : OK g κ own cc nL ret rm) {pc : Nat} {lv : List (Nat × Value)} {rest : List Value} {L : Nat → va_E} {x : Int32} (hd : decode cc pc = .ok (.i2l, 1)) (k : J g κ nL (pc + 1) lv (.long x.toInt64 :: rest) L) : J g κ nL pc lv (.int x :: rest) L := by
  obtain ⟨p, l, e, R, s, m, args, below, meth, c, cells, slots, Q, D, A⟩ := g
  obtain ⟨hx, hb, hml, hr, hlk, hown, hts, hK, hN, hi, hA1, hA2, hc, hs, hR⟩ := G
  intro H locs ls hP hS hl
  exact lv_i2l hx hb hd rfl (k H locs ls hP hS hl)
theorem w_l2i {g : Gm} {κ : ctx} {own : String} {cc : ByteArray} {nL : Nat} {ret : Option FieldType} {rm : Room} (G : OK g κ own cc nL ret rm) {pc : Nat} {lv : List (Nat × Value)} {rest : List Value} {L : Nat → va_E} {x : Int64} (hd : decode cc pc = .ok (.l2i, 1)) (k : J g κ nL (pc + 1) lv (.int x.toInt32 :: rest) L) : J g κ nL pc lv (.long x :: rest) L := by
  obtain ⟨p, l, e, R, s, m, args, below, meth, c, cells, slots, Q, D, A⟩ := g
  obtain ⟨hx, hb, hml, hr, hlk, hown, hts, hK, hN, hi, hA1, hA2, hc, hs, hR⟩ := G
  intro H locs ls hP hS hl
  exact lv_l2i hx hb hd rfl (k H locs ls hP hS hl)
theorem w_dup {g : Gm} {κ : ctx} {own : String} {cc : ByteArray} {nL : Nat} {ret : Option FieldType} {rm : Room} (G : OK g κ own cc nL ret rm) {pc : Nat} {lv : List (Nat × Value)} {rest : List Value} {L : Nat → va_E} {v : Value} (hd : decode cc pc = .ok (.dup, 1)) (hc1 : v.category = 1) (k : J g κ nL (pc + 1) lv (v :: v :: rest) L) : J g κ nL pc lv (v :: rest) L := by
  obtain ⟨p, l, e, R, s, m, args, below, meth, c, cells, slots, Q, D, A⟩ := g
  obtain ⟨hx, hb, hml, hr, hlk, hown, hts, hK, hN, hi, hA1, hA2, hc, hs, hR⟩ := G
  intro H locs ls hP hS hl
  exact lv_dup hx hb hd hc1 (k H locs ls hP hS hl)
theorem w_dup2_2 {g : Gm} {κ : ctx} {own : String} {cc : ByteArray} {nL : Nat} {ret : Option FieldType} {rm : Room} (G : OK g κ own cc nL ret rm) {pc : Nat} {lv : List (Nat × Value)} {rest : List Value} {L : Nat → va_E} {v : Value} (hd : decode cc pc = .ok (.dup2, 1)) (hc1 : v.category = 2) (k : J g κ nL (pc + 1) lv (v :: v :: rest) L) : J g κ nL pc lv (v :: rest) L := by
  obtain ⟨p, l, e, R, s, m, args, below, meth, c, cells, slots, Q, D, A⟩ := g
  obtain ⟨hx, hb, hml, hr, hlk, hown, hts, hK, hN, hi, hA1, hA2, hc, hs, hR⟩ := G
  intro H locs ls hP hS hl
  exact lv_dup2_2 hx hb hd hc1 (k H locs ls hP hS hl)
theorem w_dup2_11 {g : Gm} {κ : ctx} {own : String} {cc : ByteArray} {nL : Nat} {ret : Option FieldType} {rm : Room} (G : OK g κ own cc nL ret rm) {pc : Nat} {lv : List (Nat × Value)} {rest : List Value} {L : Nat → va_E} {v w : Value} (hd : decode cc pc = .ok (.dup2, 1)) (hc1 : v.category = 1) (hc2 : w.category = 1) (k : J g κ nL (pc + 1) lv (v :: w :: v :: w :: rest) L) : J g κ nL pc lv (v :: w :: rest) L := by
  obtain ⟨p, l, e, R, s, m, args, below, meth, c, cells, slots, Q, D, A⟩ := g
  obtain ⟨hx, hb, hml, hr, hlk, hown, hts, hK, hN, hi, hA1, hA2, hc, hs, hR⟩ := G
  intro H locs ls hP hS hl
  exact lv_dup2_11 hx hb hd hc1 hc2 (k H locs ls hP hS hl)
theorem w_goto {g : Gm} {κ : ctx} {own : String} {cc : ByteArray} {nL : Nat} {ret : Option FieldType} {rm : Room} (G : OK g κ own cc nL ret rm) {pc : Nat} {lv : List (Nat × Value)} {rest : List Value} {L : Nat → va_E} {off : Int} {tgt : Nat} (hd : decode cc pc = .ok (.goto off, 3)) (ht : (pc : Int) + off = (tgt : Int)) (k : J g κ nL tgt lv rest L) : J g κ nL pc lv rest L := by
  obtain ⟨p, l, e, R, s, m, args, below, meth, c, cells, slots, Q, D, A⟩ := g
  obtain ⟨hx, hb, hml, hr, hlk, hown, hts, hK, hN, hi, hA1, hA2, hc, hs, hR⟩ := G
  intro H locs ls hP hS hl
  exact lv_goto hx hb hd ht (k H locs ls hP hS hl)
theorem w_if_eq {g : Gm} {κ : ctx} {own : String} {cc : ByteArray} {nL : Nat} {ret : Option FieldType} {rm : Room} (G : OK g κ own cc nL ret rm) {pc : Nat} {lv : List (Nat × Value)} {rest : List Value} {L : Nat → va_E} {x : Int32} {off : Int} {tgt : Nat} (hd : decode cc pc = .ok (.ifCond .eq off, 3)) (ht : (pc : Int) + off = (tgt : Int)) (kt : x = 0 → J g κ nL tgt lv rest L) (kf : ¬ (x = 0) → J g κ nL (pc + 3) lv rest L) : J g κ nL pc lv (.int x :: rest) L := by
  obtain ⟨p, l, e, R, s, m, args, below, meth, c, cells, slots, Q, D, A⟩ := g
  obtain ⟨hx, hb, hml, hr, hlk, hown, hts, hK, hN, hi, hA1, hA2, hc, hs, hR⟩ := G
  intro H locs ls hP hS hl
  exact lv_if_eq hx hb hd ht (fun q => kt q H locs ls hP hS hl) (fun q => kf q H locs ls hP hS hl)
theorem w_if_lt {g : Gm} {κ : ctx} {own : String} {cc : ByteArray} {nL : Nat} {ret : Option FieldType} {rm : Room} (G : OK g κ own cc nL ret rm) {pc : Nat} {lv : List (Nat × Value)} {rest : List Value} {L : Nat → va_E} {x : Int32} {off : Int} {tgt : Nat} (hd : decode cc pc = .ok (.ifCond .lt off, 3)) (ht : (pc : Int) + off = (tgt : Int)) (kt : x < 0 → J g κ nL tgt lv rest L) (kf : ¬ (x < 0) → J g κ nL (pc + 3) lv rest L) : J g κ nL pc lv (.int x :: rest) L := by
  obtain ⟨p, l, e, R, s, m, args, below, meth, c, cells, slots, Q, D, A⟩ := g
  obtain ⟨hx, hb, hml, hr, hlk, hown, hts, hK, hN, hi, hA1, hA2, hc, hs, hR⟩ := G
  intro H locs ls hP hS hl
  exact lv_if_lt hx hb hd ht (fun q => kt q H locs ls hP hS hl) (fun q => kf q H locs ls hP hS hl)
theorem w_if_ge {g : Gm} {κ : ctx} {own : String} {cc : ByteArray} {nL : Nat} {ret : Option FieldType} {rm : Room} (G : OK g κ own cc nL ret rm) {pc : Nat} {lv : List (Nat × Value)} {rest : List Value} {L : Nat → va_E} {x : Int32} {off : Int} {tgt : Nat} (hd : decode cc pc = .ok (.ifCond .ge off, 3)) (ht : (pc : Int) + off = (tgt : Int)) (kt : 0 ≤ x → J g κ nL tgt lv rest L) (kf : ¬ (0 ≤ x) → J g κ nL (pc + 3) lv rest L) : J g κ nL pc lv (.int x :: rest) L := by
  obtain ⟨p, l, e, R, s, m, args, below, meth, c, cells, slots, Q, D, A⟩ := g
  obtain ⟨hx, hb, hml, hr, hlk, hown, hts, hK, hN, hi, hA1, hA2, hc, hs, hR⟩ := G
  intro H locs ls hP hS hl
  exact lv_if_ge hx hb hd ht (fun q => kt q H locs ls hP hS hl) (fun q => kf q H locs ls hP hS hl)
theorem w_if_gt {g : Gm} {κ : ctx} {own : String} {cc : ByteArray} {nL : Nat} {ret : Option FieldType} {rm : Room} (G : OK g κ own cc nL ret rm) {pc : Nat} {lv : List (Nat × Value)} {rest : List Value} {L : Nat → va_E} {x : Int32} {off : Int} {tgt : Nat} (hd : decode cc pc = .ok (.ifCond .gt off, 3)) (ht : (pc : Int) + off = (tgt : Int)) (kt : 0 < x → J g κ nL tgt lv rest L) (kf : ¬ (0 < x) → J g κ nL (pc + 3) lv rest L) : J g κ nL pc lv (.int x :: rest) L := by
  obtain ⟨p, l, e, R, s, m, args, below, meth, c, cells, slots, Q, D, A⟩ := g
  obtain ⟨hx, hb, hml, hr, hlk, hown, hts, hK, hN, hi, hA1, hA2, hc, hs, hR⟩ := G
  intro H locs ls hP hS hl
  exact lv_if_gt hx hb hd ht (fun q => kt q H locs ls hP hS hl) (fun q => kf q H locs ls hP hS hl)
theorem w_if_le {g : Gm} {κ : ctx} {own : String} {cc : ByteArray} {nL : Nat} {ret : Option FieldType} {rm : Room} (G : OK g κ own cc nL ret rm) {pc : Nat} {lv : List (Nat × Value)} {rest : List Value} {L : Nat → va_E} {x : Int32} {off : Int} {tgt : Nat} (hd : decode cc pc = .ok (.ifCond .le off, 3)) (ht : (pc : Int) + off = (tgt : Int)) (kt : x ≤ 0 → J g κ nL tgt lv rest L) (kf : ¬ (x ≤ 0) → J g κ nL (pc + 3) lv rest L) : J g κ nL pc lv (.int x :: rest) L := by
  obtain ⟨p, l, e, R, s, m, args, below, meth, c, cells, slots, Q, D, A⟩ := g
  obtain ⟨hx, hb, hml, hr, hlk, hown, hts, hK, hN, hi, hA1, hA2, hc, hs, hR⟩ := G
  intro H locs ls hP hS hl
  exact lv_if_le hx hb hd ht (fun q => kt q H locs ls hP hS hl) (fun q => kf q H locs ls hP hS hl)
theorem w_if_ne {g : Gm} {κ : ctx} {own : String} {cc : ByteArray} {nL : Nat} {ret : Option FieldType} {rm : Room} (G : OK g κ own cc nL ret rm) {pc : Nat} {lv : List (Nat × Value)} {rest : List Value} {L : Nat → va_E} {x : Int32} {off : Int} {tgt : Nat} (hd : decode cc pc = .ok (.ifCond .ne off, 3)) (ht : (pc : Int) + off = (tgt : Int)) (kt : x = 0 → J g κ nL (pc + 3) lv rest L) (kf : ¬ (x = 0) → J g κ nL tgt lv rest L) : J g κ nL pc lv (.int x :: rest) L := by
  obtain ⟨p, l, e, R, s, m, args, below, meth, c, cells, slots, Q, D, A⟩ := g
  obtain ⟨hx, hb, hml, hr, hlk, hown, hts, hK, hN, hi, hA1, hA2, hc, hs, hR⟩ := G
  intro H locs ls hP hS hl
  exact lv_if_ne hx hb hd ht (fun q => kf q H locs ls hP hS hl) (fun q => kt q H locs ls hP hS hl)
theorem w_icmp_eq {g : Gm} {κ : ctx} {own : String} {cc : ByteArray} {nL : Nat} {ret : Option FieldType} {rm : Room} (G : OK g κ own cc nL ret rm) {pc : Nat} {lv : List (Nat × Value)} {rest : List Value} {L : Nat → va_E} {x y : Int32} {off : Int} {tgt : Nat} (hd : decode cc pc = .ok (.if_icmp .eq off, 3)) (ht : (pc : Int) + off = (tgt : Int)) (kt : x = y → J g κ nL tgt lv rest L) (kf : ¬ (x = y) → J g κ nL (pc + 3) lv rest L) : J g κ nL pc lv (.int y :: .int x :: rest) L := by
  obtain ⟨p, l, e, R, s, m, args, below, meth, c, cells, slots, Q, D, A⟩ := g
  obtain ⟨hx, hb, hml, hr, hlk, hown, hts, hK, hN, hi, hA1, hA2, hc, hs, hR⟩ := G
  intro H locs ls hP hS hl
  exact lv_icmp_eq hx hb hd ht (fun q => kt q H locs ls hP hS hl) (fun q => kf q H locs ls hP hS hl)
theorem w_icmp_lt {g : Gm} {κ : ctx} {own : String} {cc : ByteArray} {nL : Nat} {ret : Option FieldType} {rm : Room} (G : OK g κ own cc nL ret rm) {pc : Nat} {lv : List (Nat × Value)} {rest : List Value} {L : Nat → va_E} {x y : Int32} {off : Int} {tgt : Nat} (hd : decode cc pc = .ok (.if_icmp .lt off, 3)) (ht : (pc : Int) + off = (tgt : Int)) (kt : x < y → J g κ nL tgt lv rest L) (kf : ¬ (x < y) → J g κ nL (pc + 3) lv rest L) : J g κ nL pc lv (.int y :: .int x :: rest) L := by
  obtain ⟨p, l, e, R, s, m, args, below, meth, c, cells, slots, Q, D, A⟩ := g
  obtain ⟨hx, hb, hml, hr, hlk, hown, hts, hK, hN, hi, hA1, hA2, hc, hs, hR⟩ := G
  intro H locs ls hP hS hl
  exact lv_icmp_lt hx hb hd ht (fun q => kt q H locs ls hP hS hl) (fun q => kf q H locs ls hP hS hl)
theorem w_icmp_ge {g : Gm} {κ : ctx} {own : String} {cc : ByteArray} {nL : Nat} {ret : Option FieldType} {rm : Room} (G : OK g κ own cc nL ret rm) {pc : Nat} {lv : List (Nat × Value)} {rest : List Value} {L : Nat → va_E} {x y : Int32} {off : Int} {tgt : Nat} (hd : decode cc pc = .ok (.if_icmp .ge off, 3)) (ht : (pc : Int) + off = (tgt : Int)) (kt : y ≤ x → J g κ nL tgt lv rest L) (kf : ¬ (y ≤ x) → J g κ nL (pc + 3) lv rest L) : J g κ nL pc lv (.int y :: .int x :: rest) L := by
  obtain ⟨p, l, e, R, s, m, args, below, meth, c, cells, slots, Q, D, A⟩ := g
  obtain ⟨hx, hb, hml, hr, hlk, hown, hts, hK, hN, hi, hA1, hA2, hc, hs, hR⟩ := G
  intro H locs ls hP hS hl
  exact lv_icmp_ge hx hb hd ht (fun q => kt q H locs ls hP hS hl) (fun q => kf q H locs ls hP hS hl)
theorem w_icmp_gt {g : Gm} {κ : ctx} {own : String} {cc : ByteArray} {nL : Nat} {ret : Option FieldType} {rm : Room} (G : OK g κ own cc nL ret rm) {pc : Nat} {lv : List (Nat × Value)} {rest : List Value} {L : Nat → va_E} {x y : Int32} {off : Int} {tgt : Nat} (hd : decode cc pc = .ok (.if_icmp .gt off, 3)) (ht : (pc : Int) + off = (tgt : Int)) (kt : y < x → J g κ nL tgt lv rest L) (kf : ¬ (y < x) → J g κ nL (pc + 3) lv rest L) : J g κ nL pc lv (.int y :: .int x :: rest) L := by
  obtain ⟨p, l, e, R, s, m, args, below, meth, c, cells, slots, Q, D, A⟩ := g
  obtain ⟨hx, hb, hml, hr, hlk, hown, hts, hK, hN, hi, hA1, hA2, hc, hs, hR⟩ := G
  intro H locs ls hP hS hl
  exact lv_icmp_gt hx hb hd ht (fun q => kt q H locs ls hP hS hl) (fun q => kf q H locs ls hP hS hl)
theorem w_icmp_le {g : Gm} {κ : ctx} {own : String} {cc : ByteArray} {nL : Nat} {ret : Option FieldType} {rm : Room} (G : OK g κ own cc nL ret rm) {pc : Nat} {lv : List (Nat × Value)} {rest : List Value} {L : Nat → va_E} {x y : Int32} {off : Int} {tgt : Nat} (hd : decode cc pc = .ok (.if_icmp .le off, 3)) (ht : (pc : Int) + off = (tgt : Int)) (kt : x ≤ y → J g κ nL tgt lv rest L) (kf : ¬ (x ≤ y) → J g κ nL (pc + 3) lv rest L) : J g κ nL pc lv (.int y :: .int x :: rest) L := by
  obtain ⟨p, l, e, R, s, m, args, below, meth, c, cells, slots, Q, D, A⟩ := g
  obtain ⟨hx, hb, hml, hr, hlk, hown, hts, hK, hN, hi, hA1, hA2, hc, hs, hR⟩ := G
  intro H locs ls hP hS hl
  exact lv_icmp_le hx hb hd ht (fun q => kt q H locs ls hP hS hl) (fun q => kf q H locs ls hP hS hl)
theorem w_icmp_ne {g : Gm} {κ : ctx} {own : String} {cc : ByteArray} {nL : Nat} {ret : Option FieldType} {rm : Room} (G : OK g κ own cc nL ret rm) {pc : Nat} {lv : List (Nat × Value)} {rest : List Value} {L : Nat → va_E} {x y : Int32} {off : Int} {tgt : Nat} (hd : decode cc pc = .ok (.if_icmp .ne off, 3)) (ht : (pc : Int) + off = (tgt : Int)) (kt : x = y → J g κ nL (pc + 3) lv rest L) (kf : ¬ (x = y) → J g κ nL tgt lv rest L) : J g κ nL pc lv (.int y :: .int x :: rest) L := by
  obtain ⟨p, l, e, R, s, m, args, below, meth, c, cells, slots, Q, D, A⟩ := g
  obtain ⟨hx, hb, hml, hr, hlk, hown, hts, hK, hN, hi, hA1, hA2, hc, hs, hR⟩ := G
  intro H locs ls hP hS hl
  exact lv_icmp_ne hx hb hd ht (fun q => kf q H locs ls hP hS hl) (fun q => kt q H locs ls hP hS hl)
theorem w_lc_eq {g : Gm} {κ : ctx} {own : String} {cc : ByteArray} {nL : Nat} {ret : Option FieldType} {rm : Room} (G : OK g κ own cc nL ret rm) {pc : Nat} {lv : List (Nat × Value)} {rest : List Value} {L : Nat → va_E} {x y : Int64} {off : Int} {tgt : Nat} (hd : decode cc pc = .ok (.lcmp, 1)) (hd2 : decode cc (pc + 1) = .ok (.ifCond .eq off, 3)) (ht : ((pc + 1 : Nat) : Int) + off = (tgt : Int)) (kt : x = y → J g κ nL tgt lv rest L) (kf : ¬ (x = y) → J g κ nL (pc + 4) lv rest L) : J g κ nL pc lv (.long y :: .long x :: rest) L := by
  obtain ⟨p, l, e, R, s, m, args, below, meth, c, cells, slots, Q, D, A⟩ := g
  obtain ⟨hx, hb, hml, hr, hlk, hown, hts, hK, hN, hi, hA1, hA2, hc, hs, hR⟩ := G
  intro H locs ls hP hS hl
  refine W.lcmp hx hb hd ?_
  exact lv_if_eq hx hb hd2 ht (fun q => kt ((lg_cmp_eq x y).mp q) H locs ls hP hS hl) (fun q => kf (fun z => q ((lg_cmp_eq x y).mpr z)) H locs ls hP hS hl)
theorem w_lc_lt {g : Gm} {κ : ctx} {own : String} {cc : ByteArray} {nL : Nat} {ret : Option FieldType} {rm : Room} (G : OK g κ own cc nL ret rm) {pc : Nat} {lv : List (Nat × Value)} {rest : List Value} {L : Nat → va_E} {x y : Int64} {off : Int} {tgt : Nat} (hd : decode cc pc = .ok (.lcmp, 1)) (hd2 : decode cc (pc + 1) = .ok (.ifCond .lt off, 3)) (ht : ((pc + 1 : Nat) : Int) + off = (tgt : Int)) (kt : x < y → J g κ nL tgt lv rest L) (kf : ¬ (x < y) → J g κ nL (pc + 4) lv rest L) : J g κ nL pc lv (.long y :: .long x :: rest) L := by
  obtain ⟨p, l, e, R, s, m, args, below, meth, c, cells, slots, Q, D, A⟩ := g
  obtain ⟨hx, hb, hml, hr, hlk, hown, hts, hK, hN, hi, hA1, hA2, hc, hs, hR⟩ := G
  intro H locs ls hP hS hl
  refine W.lcmp hx hb hd ?_
  exact lv_if_lt hx hb hd2 ht (fun q => kt ((lg_cmp_lt x y).mp q) H locs ls hP hS hl) (fun q => kf (fun z => q ((lg_cmp_lt x y).mpr z)) H locs ls hP hS hl)
theorem w_lc_ge {g : Gm} {κ : ctx} {own : String} {cc : ByteArray} {nL : Nat} {ret : Option FieldType} {rm : Room} (G : OK g κ own cc nL ret rm) {pc : Nat} {lv : List (Nat × Value)} {rest : List Value} {L : Nat → va_E} {x y : Int64} {off : Int} {tgt : Nat} (hd : decode cc pc = .ok (.lcmp, 1)) (hd2 : decode cc (pc + 1) = .ok (.ifCond .ge off, 3)) (ht : ((pc + 1 : Nat) : Int) + off = (tgt : Int)) (kt : y ≤ x → J g κ nL tgt lv rest L) (kf : ¬ (y ≤ x) → J g κ nL (pc + 4) lv rest L) : J g κ nL pc lv (.long y :: .long x :: rest) L := by
  obtain ⟨p, l, e, R, s, m, args, below, meth, c, cells, slots, Q, D, A⟩ := g
  obtain ⟨hx, hb, hml, hr, hlk, hown, hts, hK, hN, hi, hA1, hA2, hc, hs, hR⟩ := G
  intro H locs ls hP hS hl
  refine W.lcmp hx hb hd ?_
  exact lv_if_ge hx hb hd2 ht (fun q => kt ((lg_cmp_ge x y).mp q) H locs ls hP hS hl) (fun q => kf (fun z => q ((lg_cmp_ge x y).mpr z)) H locs ls hP hS hl)
theorem w_lc_gt {g : Gm} {κ : ctx} {own : String} {cc : ByteArray} {nL : Nat} {ret : Option FieldType} {rm : Room} (G : OK g κ own cc nL ret rm) {pc : Nat} {lv : List (Nat × Value)} {rest : List Value} {L : Nat → va_E} {x y : Int64} {off : Int} {tgt : Nat} (hd : decode cc pc = .ok (.lcmp, 1)) (hd2 : decode cc (pc + 1) = .ok (.ifCond .gt off, 3)) (ht : ((pc + 1 : Nat) : Int) + off = (tgt : Int)) (kt : y < x → J g κ nL tgt lv rest L) (kf : ¬ (y < x) → J g κ nL (pc + 4) lv rest L) : J g κ nL pc lv (.long y :: .long x :: rest) L := by
  obtain ⟨p, l, e, R, s, m, args, below, meth, c, cells, slots, Q, D, A⟩ := g
  obtain ⟨hx, hb, hml, hr, hlk, hown, hts, hK, hN, hi, hA1, hA2, hc, hs, hR⟩ := G
  intro H locs ls hP hS hl
  refine W.lcmp hx hb hd ?_
  exact lv_if_gt hx hb hd2 ht (fun q => kt ((lg_cmp_gt x y).mp q) H locs ls hP hS hl) (fun q => kf (fun z => q ((lg_cmp_gt x y).mpr z)) H locs ls hP hS hl)
theorem w_lc_le {g : Gm} {κ : ctx} {own : String} {cc : ByteArray} {nL : Nat} {ret : Option FieldType} {rm : Room} (G : OK g κ own cc nL ret rm) {pc : Nat} {lv : List (Nat × Value)} {rest : List Value} {L : Nat → va_E} {x y : Int64} {off : Int} {tgt : Nat} (hd : decode cc pc = .ok (.lcmp, 1)) (hd2 : decode cc (pc + 1) = .ok (.ifCond .le off, 3)) (ht : ((pc + 1 : Nat) : Int) + off = (tgt : Int)) (kt : x ≤ y → J g κ nL tgt lv rest L) (kf : ¬ (x ≤ y) → J g κ nL (pc + 4) lv rest L) : J g κ nL pc lv (.long y :: .long x :: rest) L := by
  obtain ⟨p, l, e, R, s, m, args, below, meth, c, cells, slots, Q, D, A⟩ := g
  obtain ⟨hx, hb, hml, hr, hlk, hown, hts, hK, hN, hi, hA1, hA2, hc, hs, hR⟩ := G
  intro H locs ls hP hS hl
  refine W.lcmp hx hb hd ?_
  exact lv_if_le hx hb hd2 ht (fun q => kt ((lg_cmp_le x y).mp q) H locs ls hP hS hl) (fun q => kf (fun z => q ((lg_cmp_le x y).mpr z)) H locs ls hP hS hl)
theorem w_lc_ne {g : Gm} {κ : ctx} {own : String} {cc : ByteArray} {nL : Nat} {ret : Option FieldType} {rm : Room} (G : OK g κ own cc nL ret rm) {pc : Nat} {lv : List (Nat × Value)} {rest : List Value} {L : Nat → va_E} {x y : Int64} {off : Int} {tgt : Nat} (hd : decode cc pc = .ok (.lcmp, 1)) (hd2 : decode cc (pc + 1) = .ok (.ifCond .ne off, 3)) (ht : ((pc + 1 : Nat) : Int) + off = (tgt : Int)) (kt : x = y → J g κ nL (pc + 4) lv rest L) (kf : ¬ (x = y) → J g κ nL tgt lv rest L) : J g κ nL pc lv (.long y :: .long x :: rest) L := by
  obtain ⟨p, l, e, R, s, m, args, below, meth, c, cells, slots, Q, D, A⟩ := g
  obtain ⟨hx, hb, hml, hr, hlk, hown, hts, hK, hN, hi, hA1, hA2, hc, hs, hR⟩ := G
  intro H locs ls hP hS hl
  refine W.lcmp hx hb hd ?_
  exact lv_if_ne hx hb hd2 ht (fun q => kf (fun z => q ((lg_cmp_eq x y).mpr z)) H locs ls hP hS hl) (fun q => kt ((lg_cmp_eq x y).mp q) H locs ls hP hS hl)
theorem w_ldc {g : Gm} {κ : ctx} {own : String} {cc : ByteArray} {nL : Nat} {ret : Option FieldType} {rm : Room} (G : OK g κ own cc nL ret rm) {pc : Nat} {lv : List (Nat × Value)} {rest : List Value} {L : Nat → va_E} {index : Nat} {v : Int32} (hw : Cond.constant own index v ∈ utbl) (hd : decode cc pc = .ok (.ldc index, 2)) (k : J g κ nL (pc + 2) lv (.int v :: rest) L) : J g κ nL pc lv (rest) L := by
  obtain ⟨p, l, e, R, s, m, args, below, meth, c, cells, slots, Q, D, A⟩ := g
  obtain ⟨hx, hb, hml, hr, hlk, hown, hts, hK, hN, hi, hA1, hA2, hc, hs, hR⟩ := G
  intro H locs ls hP hS hl
  exact lv_ldc hx hb hown (hts _ hw) hd (k H locs ls hP hS hl)
theorem w_ldc2 {g : Gm} {κ : ctx} {own : String} {cc : ByteArray} {nL : Nat} {ret : Option FieldType} {rm : Room} (G : OK g κ own cc nL ret rm) {pc : Nat} {lv : List (Nat × Value)} {rest : List Value} {L : Nat → va_E} {index : Nat} {v : Int64} (hw : Cond.constantLong own index v ∈ utbl) (hd : decode cc pc = .ok (.ldc2_w index, 3)) (k : J g κ nL (pc + 3) lv (.long v :: rest) L) : J g κ nL pc lv (rest) L := by
  obtain ⟨p, l, e, R, s, m, args, below, meth, c, cells, slots, Q, D, A⟩ := g
  obtain ⟨hx, hb, hml, hr, hlk, hown, hts, hK, hN, hi, hA1, hA2, hc, hs, hR⟩ := G
  intro H locs ls hP hS hl
  exact lv_ldc2 hx hb hown (hts _ hw) hd (k H locs ls hP hS hl)
theorem w_iald {g : Gm} {κ : ctx} {own : String} {cc : ByteArray} {nL : Nat} {ret : Option FieldType} {rm : Room} (G : OK g κ own cc nL ret rm) {pc : Nat} {lv : List (Nat × Value)} {rest : List Value} {L : Nat → va_E} (q : Nat) (hq : q < NW) {n : Nat} {f : Nat → Int32} (he : L q = .inl (κ.2.1, n, .inl f)) {i : Int32} (hin : vp_in i n) (hd : decode cc pc = .ok (.iaload, 1)) (k : J g κ nL (pc + 1) lv (.int (f i.toNatClampNeg) :: rest) L) : J g κ nL pc lv (.int i :: .ref (κ.1 q) :: rest) L := by
  obtain ⟨p, l, e, R, s, m, args, below, meth, c, cells, slots, Q, D, A⟩ := g
  obtain ⟨hx, hb, hml, hr, hlk, hown, hts, hK, hN, hi, hA1, hA2, hc, hs, hR⟩ := G
  intro H locs ls hP hS hl
  exact va_iald hx hb hK hP q 0 (by rw [wl_get hq, he]) rfl hin hd (k H locs ls hP hS hl)
theorem w_lald {g : Gm} {κ : ctx} {own : String} {cc : ByteArray} {nL : Nat} {ret : Option FieldType} {rm : Room} (G : OK g κ own cc nL ret rm) {pc : Nat} {lv : List (Nat × Value)} {rest : List Value} {L : Nat → va_E} (q : Nat) (hq : q < NW) {n : Nat} {f : Nat → Int64} (he : L q = .inl (κ.2.2.1, n, .inr (.inl f))) {i : Int32} (hin : vp_in i n) (hd : decode cc pc = .ok (.laload, 1)) (k : J g κ nL (pc + 1) lv (.long (f i.toNatClampNeg) :: rest) L) : J g κ nL pc lv (.int i :: .ref (κ.1 q) :: rest) L := by
  obtain ⟨p, l, e, R, s, m, args, below, meth, c, cells, slots, Q, D, A⟩ := g
  obtain ⟨hx, hb, hml, hr, hlk, hown, hts, hK, hN, hi, hA1, hA2, hc, hs, hR⟩ := G
  intro H locs ls hP hS hl
  exact va_lald hx hb hK hP q 1 (by rw [wl_get hq, he]) rfl hin hd (k H locs ls hP hS hl)
theorem w_iast {g : Gm} {κ : ctx} {own : String} {cc : ByteArray} {nL : Nat} {ret : Option FieldType} {rm : Room} (G : OK g κ own cc nL ret rm) {pc : Nat} {lv : List (Nat × Value)} {rest : List Value} {L : Nat → va_E} (q : Nat) (hq : q < NW) {n : Nat} {f : Nat → Int32} (he : L q = .inl (κ.2.1, n, .inl f)) {i x : Int32} (hin : vp_in i n) (hd : decode cc pc = .ok (.iastore, 1)) {L1 : Nat → va_E} (hL : va_up L q (.inl (κ.2.1, n, .inl (upd f i.toNatClampNeg x))) = L1) (k : J g κ nL (pc + 1) lv rest L1) : J g κ nL pc lv (.int x :: .int i :: .ref (κ.1 q) :: rest) L := by
  obtain ⟨p, l, e, R, s, m, args, below, meth, c, cells, slots, Q, D, A⟩ := g
  obtain ⟨hx, hb, hml, hr, hlk, hown, hts, hK, hN, hi, hA1, hA2, hc, hs, hR⟩ := G
  intro H locs ls hP hS hl
  refine va_iast hx hb hK hP (wl_D hi hA1) hS q 0 (by rw [wl_get hq, he]) rfl hin hd (fun H1 locs1 hP1 _ hS1 => ?_)
  rw [wl_set, hL] at hP1
  exact k H1 locs1 ls hP1 hS1 hl
theorem w_last {g : Gm} {κ : ctx} {own : String} {cc : ByteArray} {nL : Nat} {ret : Option FieldType} {rm : Room} (G : OK g κ own cc nL ret rm) {pc : Nat} {lv : List (Nat × Value)} {rest : List Value} {L : Nat → va_E} (q : Nat) (hq : q < NW) {n : Nat} {f : Nat → Int64} (he : L q = .inl (κ.2.2.1, n, .inr (.inl f))) {i : Int32} {x : Int64} (hin : vp_in i n) (hd : decode cc pc = .ok (.lastore, 1)) {L1 : Nat → va_E} (hL : va_up L q (.inl (κ.2.2.1, n, .inr (.inl (vp_updL f i.toNatClampNeg x)))) = L1) (k : J g κ nL (pc + 1) lv rest L1) : J g κ nL pc lv (.long x :: .int i :: .ref (κ.1 q) :: rest) L := by
  obtain ⟨p, l, e, R, s, m, args, below, meth, c, cells, slots, Q, D, A⟩ := g
  obtain ⟨hx, hb, hml, hr, hlk, hown, hts, hK, hN, hi, hA1, hA2, hc, hs, hR⟩ := G
  intro H locs ls hP hS hl
  refine va_last hx hb hK hP (wl_D hi hA1) hS q 1 (by rw [wl_get hq, he]) rfl hin hd (fun H1 locs1 hP1 _ hS1 => ?_)
  rw [wl_set, hL] at hP1
  exact k H1 locs1 ls hP1 hS1 hl
theorem w_aald {g : Gm} {κ : ctx} {own : String} {cc : ByteArray} {nL : Nat} {ret : Option FieldType} {rm : Room} (G : OK g κ own cc nL ret rm) {pc : Nat} {lv : List (Nat × Value)} {rest : List Value} {L : Nat → va_E} (q : Nat) (hq : q < NW) {n : Nat} {f : Nat → Option Nat} (he : L q = .inl (κ.2.2.2, n, .inr (.inr (.inr (.inr f))))) {i : Int32} {b : Nat} (hin : vp_in i n) (hf : f i.toNatClampNeg = some b) (hd : decode cc pc = .ok (.aaload, 1)) (k : J g κ nL (pc + 1) lv (.ref b :: rest) L) : J g κ nL pc lv (.int i :: .ref (κ.1 q) :: rest) L := by
  obtain ⟨p, l, e, R, s, m, args, below, meth, c, cells, slots, Q, D, A⟩ := g
  obtain ⟨hx, hb, hml, hr, hlk, hown, hts, hK, hN, hi, hA1, hA2, hc, hs, hR⟩ := G
  intro H locs ls hP hS hl
  have hlt : i.toNatClampNeg < n := Nat.not_le.mp fun z => hin (Or.inr z)
  have ha : (wl κ.1 L)[q]? = some (κ.1 q, .inl (κ.2.2.2, n, .inr (.inr (.inr (.inr f))))) := by rw [wl_get hq, he]
  have hcell := hP q _ ha
  refine W.aald (v := .ref b) (ty := .array .long) hx hb hcell ((hK.2 2 _ rfl).1 n (fun j => va_rf (f j))) rfl (fun z => by cases z) (by show ¬ (i < 0 ∨ (arrV _ _ _).slots.size ≤ _); rw [arrV_size]; exact hin) (by show (arrV _ _ _).slots[_]? = _; rw [arrV_read _ _ hlt, hf]; rfl) rfl rfl hd (k H locs ls hP hS hl)
theorem w_alen {g : Gm} {κ : ctx} {own : String} {cc : ByteArray} {nL : Nat} {ret : Option FieldType} {rm : Room} (G : OK g κ own cc nL ret rm) {pc : Nat} {lv : List (Nat × Value)} {rest : List Value} {L : Nat → va_E} (q : Nat) (hq : q < NW) {n : Nat} {f : (Nat → Int32) ⊕ (Nat → Int64) ⊕ (Nat → UInt32) ⊕ (Nat → UInt64) ⊕ (Nat → Option Nat)} (t : Nat) {ca : ClassId} {ty : FieldType} (he : L q = .inl (ca, n, f)) (ht : (tysOf κ)[t]? = some (ca, ty)) {v : Int32} (hv : Int32.ofNat n = v) (hd : decode cc pc = .ok (.arraylength, 1)) (k : J g κ nL (pc + 1) lv (.int v :: rest) L) : J g κ nL pc lv (.ref (κ.1 q) :: rest) L := by
  obtain ⟨p, l, e, R, s, m, args, below, meth, c, cells, slots, Q, D, A⟩ := g
  obtain ⟨hx, hb, hml, hr, hlk, hown, hts, hK, hN, hi, hA1, hA2, hc, hs, hR⟩ := G
  intro H locs ls hP hS hl
  exact va_alen hx hb hK hP q t (x := (n, f)) (by rw [wl_get hq, he]) ht hv hd (k H locs ls hP hS hl)
theorem w_get {g : Gm} {κ : ctx} {own : String} {cc : ByteArray} {nL : Nat} {ret : Option FieldType} {rm : Room} (G : OK g κ own cc nL ret rm) {pc : Nat} {lv : List (Nat × Value)} {rest : List Value} {L : Nat → va_E} (q : Nat) (hq : q < NW) {ci N index : Nat} {fs : List Value} {C : String} {T : u_T} (he : L q = .inr (ci, fs)) (hc1 : classes[ci]? = some (C, T, N)) (hw : ∀ w ∈ u_ws C T N, w ∈ utbl) (j : Nat) (hj : j < N) (hlk2 : Cond.fieldLink own index (T j).1 (T j).2.1 (T j).2.2.1 ∈ utbl) {v : Value} (hv : fs[j]? = some v) (hd : decode cc pc = .ok (.getfield index, 3)) (k : J g κ nL (pc + 3) lv (v :: rest) L) : J g κ nL pc lv (.ref (κ.1 q) :: rest) L := by
  obtain ⟨p, l, e, R, s, m, args, below, meth, c, cells, slots, Q, D, A⟩ := g
  obtain ⟨hx, hb, hml, hr, hlk, hown, hts, hK, hN, hi, hA1, hA2, hc, hs, hR⟩ := G
  intro H locs ls hP hS hl
  exact va_get hx hb hts hw hown hK hP q (by rw [wl_get hq, he]) hc1 j hj (hts _ hlk2) (fun _ z => z) hv hd (k H locs ls hP hS hl)
theorem w_put {g : Gm} {κ : ctx} {own : String} {cc : ByteArray} {nL : Nat} {ret : Option FieldType} {rm : Room} (G : OK g κ own cc nL ret rm) {pc : Nat} {lv : List (Nat × Value)} {rest : List Value} {L : Nat → va_E} (q : Nat) (hq : q < NW) {ci N index : Nat} {fs : List Value} {C : String} {T : u_T} (he : L q = .inr (ci, fs)) (hc1 : classes[ci]? = some (C, T, N)) (hw : ∀ w ∈ u_ws C T N, w ∈ utbl) (ty0 : Nat → FieldType) (hty : ∀ k, k < N → parseFieldDescriptor (T k).2.2.1 = some (ty0 k)) (hnm : ∀ a, a < N → ∀ b, b < N → a ≠ b → (T a).2.1 ≠ (T b).2.1) (j : Nat) (hj : j < N) (hlk2 : Cond.fieldLink own index (T j).1 (T j).2.1 (T j).2.2.1 ∈ utbl) (hfin : (T j).2.2.2 = false) {v : Value} (hn : narrow (ty0 j) v = v) (hfit : fits (ty0 j) v = true) (hl0 : j < fs.length) (hd : decode cc pc = .ok (.putfield index, 3)) {L1 : Nat → va_E} (hL : va_up L q (.inr (ci, fs.set j v)) = L1) (k : J g κ nL (pc + 3) lv rest L1) : J g κ nL pc lv (v :: .ref (κ.1 q) :: rest) L := by
  obtain ⟨p, l, e, R, s, m, args, below, meth, c, cells, slots, Q, D, A⟩ := g
  obtain ⟨hx, hb, hml, hr, hlk, hown, hts, hK, hN, hi, hA1, hA2, hc, hs, hR⟩ := G
  intro H locs ls hP hS hl
  refine va_put hx hb hts hw ty0 hty hnm hown hK hP (wl_D hi hA1) hS q (by rw [wl_get hq, he]) hc1 j hj (hts _ hlk2) (fun _ z => z) hfin (hty j hj) hn hfit hl0 hd (fun H1 locs1 hP1 _ hS1 => ?_)
  rw [wl_set, hL] at hP1
  exact k H1 locs1 ls hP1 hS1 hl
theorem w_iret {g : Gm} {κ : ctx} {own : String} {cc : ByteArray} {nL : Nat}  {rm : Room} (G : OK g κ own cc nL (some .int) rm) {pc : Nat} {lv : List (Nat × Value)} {L : Nat → va_E} {v : Int32} (hd : decode cc pc = .ok (.ireturn, 1)) (F : Fn g κ (some (.int v)) L) : J g κ nL pc lv [.int v] L := by
  obtain ⟨p, l, e, R, s, m, args, below, meth, c, cells, slots, Q, D, A⟩ := g
  obtain ⟨hx, hb, hml, hr, hlk, hown, hts, hK, hN, hi, hA1, hA2, hc, hs, hR⟩ := G
  intro H locs ls hP hS hl
  have F : Q = _ := F
  subst F
  exact W.iret hx hb hr (fun t ht hW => ⟨⟨rfl, by rw [ht]; exact hP⟩, hS.F ht⟩) hS.2.2 hd
theorem w_lret {g : Gm} {κ : ctx} {own : String} {cc : ByteArray} {nL : Nat}  {rm : Room} (G : OK g κ own cc nL (some .long) rm) {pc : Nat} {lv : List (Nat × Value)} {L : Nat → va_E} {v : Int64} (hd : decode cc pc = .ok (.lreturn, 1)) (F : Fn g κ (some (.long v)) L) : J g κ nL pc lv [.long v] L := by
  obtain ⟨p, l, e, R, s, m, args, below, meth, c, cells, slots, Q, D, A⟩ := g
  obtain ⟨hx, hb, hml, hr, hlk, hown, hts, hK, hN, hi, hA1, hA2, hc, hs, hR⟩ := G
  intro H locs ls hP hS hl
  have F : Q = _ := F
  subst F
  exact W.lret hx hb hr (fun t ht hW => ⟨⟨rfl, by rw [ht]; exact hP⟩, hS.F ht⟩) hS.2.2 hd
theorem w_zret {g : Gm} {κ : ctx} {own : String} {cc : ByteArray} {nL : Nat}  {rm : Room} (G : OK g κ own cc nL (some .boolean) rm) {pc : Nat} {lv : List (Nat × Value)} {L : Nat → va_E} {v : Int32} (hn : narrow .boolean (.int v) = .int v) (hd : decode cc pc = .ok (.ireturn, 1)) (F : Fn g κ (some (.int v)) L) : J g κ nL pc lv [.int v] L := by
  obtain ⟨p, l, e, R, s, m, args, below, meth, c, cells, slots, Q, D, A⟩ := g
  obtain ⟨hx, hb, hml, hr, hlk, hown, hts, hK, hN, hi, hA1, hA2, hc, hs, hR⟩ := G
  intro H locs ls hP hS hl
  have F : Q = _ := F
  subst F
  exact W.zret hx hb hr hn (fun t ht hW => ⟨⟨rfl, by rw [ht]; exact hP⟩, hS.F ht⟩) hS.2.2 hd
theorem w_vret {g : Gm} {κ : ctx} {own : String} {cc : ByteArray} {nL : Nat}  {rm : Room} (G : OK g κ own cc nL none rm) {pc : Nat} {lv : List (Nat × Value)} {L : Nat → va_E} (hd : decode cc pc = .ok (.return_, 1)) (F : Fn g κ none L) : J g κ nL pc lv [] L := by
  obtain ⟨p, l, e, R, s, m, args, below, meth, c, cells, slots, Q, D, A⟩ := g
  obtain ⟨hx, hb, hml, hr, hlk, hown, hts, hK, hN, hi, hA1, hA2, hc, hs, hR⟩ := G
  intro H locs ls hP hS hl
  have F : Q = _ := F
  subst F
  exact W.vret hx hb hr (fun t ht hW => ⟨⟨rfl, by rw [ht]; exact hP⟩, hS.F ht⟩) hS.2.2 hd
theorem w_aret {g : Gm} {κ : ctx} {own : String} {cc : ByteArray} {nL : Nat} {rt : FieldType} {rm : Room} (G : OK g κ own cc nL (some rt) rm) {pc : Nat} {lv : List (Nat × Value)} {L : Nat → va_E} {a : Nat} (hrt : (∃ n, rt = .object n) ∨ ∃ t, rt = .array t) (hd : decode cc pc = .ok (.areturn, 1)) (F : Fn g κ (some (.ref a)) L) : J g κ nL pc lv [.ref a] L := by
  obtain ⟨p, l, e, R, s, m, args, below, meth, c, cells, slots, Q, D, A⟩ := g
  obtain ⟨hx, hb, hml, hr, hlk, hown, hts, hK, hN, hi, hA1, hA2, hc, hs, hR⟩ := G
  intro H locs ls hP hS hl
  have F : Q = _ := F
  subst F
  exact W.aret hx hb hr hrt (Or.inr ⟨a, rfl⟩) (fun t ht hW => ⟨⟨rfl, by rw [ht]; exact hP⟩, hS.F ht⟩) hS.2.2 hd
theorem g_after {p : Program} {l : Launch} {e : Env} {R : Room} {s : State} {m : MethodId} {args : Array Value} {below : List Frame} {meth : Method} {c : Code} {H : Heap} {locs : List Loc} {cells slots : Nat} {Q : State → Prop} {pc : Nat} {ls : Array Slot} {st0 rest : List Value} {D : va_G} {κ : ctx} {A A1 free : Nat → Prop} {v : Option Value} {L' : Nat → va_E} {av : Array Value}
    (hr : va_Run p l e R s m args below meth c H locs cells slots 0 0 (F0 m pc ls st0) rest (Qx D κ A1 v L' av) free) (hS : va_S A s.heap H locs) (hA : ∀ q, A1 q → A q) (hf : ∀ q, free q → A q)
    (kk : ∀ (H1 : Heap) (locs1 : List Loc), va_P D classes (wl κ.1 L') H1 → va_S A s.heap H1 locs1 → W p l e R s m args below meth c H1 locs1 cells slots Q (F0 m (pc + 3) ls (v.toList ++ rest))) : W p l e R s m args below meth c H locs cells slots Q (F0 m pc ls st0) := by
  intro T hT X
  obtain ⟨v', st₀, t, T', L, h0, X', hL, e1, e2, ⟨⟨hv, hp⟩, hz, hk⟩, st⟩ := hr T hT X
  have ev : v' = v := Outcome.returned.inj hv
  subst ev
  rw [h0] at hz hk
  obtain ⟨t2, a1, b1⟩ := kk T'.heap (locs ++ L) (by rw [e1]; exact hp)
    ⟨Nat.le_trans hS.1 (by rw [e1]; exact hz), fun q h1 h2 => by rw [e1, hk q (Nat.lt_of_lt_of_le h1 hS.1) (fun z => h2 (hA q z))]; exact hS.2.1 q h1 h2, fun q hq => by
      rcases List.mem_append.mp hq with h | h
      · exact hS.2.2 q h
      · exact hf _ (hL q h)⟩ T' rfl X'
  exact ⟨t2, st t2 a1, b1⟩
/-- what a call needs of the tables, of the descriptor and of the room -/
def CB (y : MethodName) (b : ByteArray) (n' : Nat) (r' : Option FieldType) (rm' rm : Room) (n : Nat) : Prop := Cond.code y b n' r' ∈ utbl ∧ Cond.initialized y.cls ∈ utbl ∧ (y.cls ≠ "java/lang/invoke/MethodHandle" ∧ y.cls ≠ "java/lang/invoke/VarHandle" ∧ (parseMethodDescriptor y.desc).map (fun d => d.parameters.length) = some n) ∧ rm'.cells = 0 ∧ rm'.slots = 0 ∧ (rm'.frames + 1 ≤ rm.frames ∧ 8 + (n' + 11) + rm'.locals ≤ rm.locals)
theorem Pre.blind {D : va_G} {κ : ctx} {L : Nat → va_E} {sz : Nat} {av : List Value} : FrameBlind (va_Pc av (Pre D κ L sz)) := fun a3 U a4 a5 h => ⟨h.1, h.2.1, h.2.2.1, va_K.moved (u := U) (U := U.calling a4 a5 a3) (Vm.Alike.refl U.vm) h.2.2.2.1, NS.same (u := U) (U := U.calling a4 a5 a3) rfl h.2.2.2.2.1, h.2.2.2.2.2⟩
theorem w_callS {g : Gm} {κ : ctx} {own : String} {cc : ByteArray} {nL : Nat} {ret : Option FieldType} {rm : Room} (G : OK g κ own cc nL ret rm) {pc : Nat} {lv : List (Nat × Value)} {rest : List Value} {L : Nat → va_E} {y : MethodName} {b' : ByteArray} {n' index n : Nat} {r' : Option FieldType} {rm' : Room} {av : List Value} {v : Option Value} {L' : Nat → va_E} (hC : CB y b' n' r' rm' rm n) (hst : Cond.static y ∈ utbl) (hlink : Cond.methodLink own index y ∈ utbl) (hM : Mt y b' n' r' rm' κ av L v L') {st st' : List Value} (hst1 : av.reverse ++ rest = st) (hst2 : v.toList ++ rest = st') (hn : av.length = n) (hroom : (rest.map fun v => v.category).sum ≤ 8) (hd : decode cc pc = .ok (.invokestatic index, 3)) (k : J g κ nL (pc + 3) lv st' L') : J g κ nL pc lv st L := by
  obtain ⟨p, l, e, R, s, m, args, below, meth, c, cells, slots, Q, D, A⟩ := g
  obtain ⟨hx, hb, hml, hr, hlk, hown, hts, hK, hN, hi, hA1, hA2, hc, hs, hR⟩ := G
  intro H locs ls hP hS hl
  subst hR
  subst hst1
  subst hst2
  obtain ⟨c1, c2, c3, c4, c5, c6⟩ := hC
  have hAin := wl_Ain (L := L) (sz := H.size) hA1 (fun q hq => hA2 q (Nat.le_trans hS.1 hq))
  exact g_after (va_runS (As := av) (rest := rest) ⟨hx, hb, hml, hown, hts⟩ (hM l D H.size) ⟨callB_of n hts (uw_in c1) rfl c4 c5 (hts _ c2) (hts _ hlink) c3 c6, hts _ hst⟩ ⟨Pre.blind, fun U hU hW => ⟨rfl, by rw [hU], by rw [hU]; exact hP, va_K.moved hW.alike hK, NS.warm hW hN, hi⟩⟩ rfl hn hl.1 rfl (lv_room hroom) hd ⟨hc, hs⟩) hS hAin hAin (fun H1 locs1 hP1 hS1 => k H1 locs1 ls hP1 hS1 hl)
theorem w_callSN {g : Gm} {κ : ctx} {own : String} {cc : ByteArray} {nL : Nat} {ret : Option FieldType} {rm : Room} (G : OK g κ own cc nL ret rm) {pc : Nat} {lv : List (Nat × Value)} {rest : List Value} {L : Nat → va_E} {y : MethodName} {b' : ByteArray} {n' index n : Nat} {r' : Option FieldType} {rm' : Room} {av : List Value} {v : Option Value} {L' : Nat → va_E} {host : String} (hC : CB y b' n' r' rm' rm n) (hst : Cond.static y ∈ utbl) (hlink : Cond.methodLinkNest own index y host ∈ lw_tbl) (hM : Mt y b' n' r' rm' κ av L v L') {st st' : List Value} (hst1 : av.reverse ++ rest = st) (hst2 : v.toList ++ rest = st') (hn : av.length = n) (hroom : (rest.map fun v => v.category).sum ≤ 8) (hd : decode cc pc = .ok (.invokestatic index, 3)) (k : J g κ nL (pc + 3) lv st' L') : J g κ nL pc lv st L := by
  obtain ⟨p, l, e, R, s, m, args, below, meth, c, cells, slots, Q, D, A⟩ := g
  obtain ⟨hx, hb, hml, hr, hlk, hown, hts, hK, hN, hi, hA1, hA2, hc, hs, hR⟩ := G
  intro H locs ls hP hS hl
  subst hR
  subst hst1
  subst hst2
  obtain ⟨c1, c2, c3, c4, c5, c6⟩ := hC
  have hAin := wl_Ain (L := L) (sz := H.size) hA1 (fun q hq => hA2 q (Nat.le_trans hS.1 hq))
  exact g_after (va_runSN (As := av) (rest := rest) ⟨hx, hb, hml, hown, hts⟩ (hM l D H.size) ⟨va_cnB n hts (uw_in c1) rfl c4 c5 (hN _ hlink rfl) (hts _ c2) c3 c6, hts _ hst, trivial⟩ ⟨Pre.blind, fun U hU hW => ⟨rfl, by rw [hU], by rw [hU]; exact hP, va_K.moved hW.alike hK, NS.warm hW hN, hi⟩⟩ rfl hn hl.1 rfl (lv_room hroom) hd ⟨hc, hs⟩) hS hAin hAin (fun H1 locs1 hP1 hS1 => k H1 locs1 ls hP1 hS1 hl)
theorem w_callV {g : Gm} {κ : ctx} {own : String} {cc : ByteArray} {nL : Nat} {ret : Option FieldType} {rm : Room} (G : OK g κ own cc nL ret rm) {pc : Nat} {lv : List (Nat × Value)} {rest : List Value} {L : Nat → va_E} {y : MethodName} {b' : ByteArray} {n' index n : Nat} {r' : Option FieldType} {rm' : Room} {av : List Value} {v : Option Value} {L' : Nat → va_E} (q ci N : Nat) {T : u_T} {fs : List Value} (hq : q < NW) (he : L q = .inr (ci, fs)) (hc1 : classes[ci]? = some (y.cls, T, N)) (hC : CB y b' n' r' rm' rm n) (hinst : Cond.instanceMethod y ∈ utbl) (hsel : Cond.selects y.cls y y ∈ utbl) (hlink : Cond.methodLink own index y ∈ utbl) (hM : Mt y b' n' r' rm' κ (.ref (κ.1 q) :: av) L v L') {st st' : List Value} (hst1 : av.reverse ++ .ref (κ.1 q) :: rest = st) (hst2 : v.toList ++ rest = st') (hn : av.length = n) (hroom : (rest.map fun v => v.category).sum ≤ 8) (hd : decode cc pc = .ok (.invokevirtual index, 3)) (k : J g κ nL (pc + 3) lv st' L') : J g κ nL pc lv st L := by
  obtain ⟨p, l, e, R, s, m, args, below, meth, c, cells, slots, Q, D, A⟩ := g
  obtain ⟨hx, hb, hml, hr, hlk, hown, hts, hK, hN, hi, hA1, hA2, hc, hs, hR⟩ := G
  intro H locs ls hP hS hl
  subst hR
  subst hst1
  subst hst2
  obtain ⟨c1, c2, c3, c4, c5, c6⟩ := hC
  have hAin := wl_Ain (L := L) (sz := H.size) hA1 (fun q hq => hA2 q (Nat.le_trans hS.1 hq))
  have hw9 : (wl κ.1 L)[q]? = some (κ.1 q, .inr (ci, fs)) := by rw [wl_get hq, he]
  exact g_after (va_runV (As := av) (rest := rest) ⟨hx, hb, hml, hown, hts⟩ (hM l D H.size) ⟨callB_of n hts (uw_in c1) rfl c4 c5 (hts _ c2) (hts _ hlink) c3 c6, hts _ hinst, hts _ hsel⟩ ⟨Pre.blind, va_recv hK hP hc1 hw9, fun U hU hW => ⟨rfl, by rw [hU], by rw [hU]; exact hP, va_K.moved hW.alike hK, NS.warm hW hN, hi⟩⟩ rfl hn hl.1 rfl (lv_room hroom) hd ⟨hc, hs⟩) hS hAin hAin (fun H1 locs1 hP1 hS1 => k H1 locs1 ls hP1 hS1 hl)
theorem w_sub {g : Gm} {κ : ctx} {nL pc : Nat} {lv lv' : List (Nat × Value)} {st : List Value} {L : Nat → va_E} (is : List Nat) (h : is.filterMap (fun i => lv[i]?) = lv') (k : J g κ nL pc lv' st L) : J g κ nL pc lv st L := by
  obtain ⟨p, l, e, R, s, m, args, below, meth, c, cells, slots, Q, D, A⟩ := g
  intro H locs ls hP hS hl
  exact k H locs ls hP hS (lv_sub hl is h)
theorem w_eqL {g : Gm} {κ : ctx} {nL pc : Nat} {lv : List (Nat × Value)} {st : List Value} {L L' : Nat → va_E} (h : L = L') (k : J g κ nL pc lv st L') : J g κ nL pc lv st L := h ▸ k
/-- a part of a model that goes on only where c holds -/
noncomputable def gd {α : Type} (c : Prop) (x : Option α) : Option α := @ite _ c (Classical.propDecidable c) x none
theorem gd_some {α : Type} {c : Prop} {x : Option α} {b : α} (h : gd c x = some b) : c ∧ x = some b := by
  unfold gd at h
  by_cases hc : c
  · rw [if_pos hc] at h; exact ⟨hc, h⟩
  · rw [if_neg hc] at h; cases h
theorem gd_t {α : Type} {c : Prop} {x : Option α} (h : c) : gd c x = x := by unfold gd; rw [if_pos h]
theorem bd {α β : Type} {x : Option α} {f : α → Option β} {b : β} (h : x.bind f = some b) : ∃ a, x = some a ∧ f a = some b := Option.bind_eq_some_iff.mp h
theorem if_t {α : Type} {c : Prop} {i : Decidable c} {x y : Option α} {b : α} (hc : c) (h : @ite _ c i x y = some b) : x = some b := by rw [if_pos hc] at h; exact h
theorem if_f {α : Type} {c : Prop} {i : Decidable c} {x y : Option α} {b : α} (hc : ¬ c) (h : @ite _ c i x y = some b) : y = some b := by rw [if_neg hc] at h; exact h
end
section
theorem wd0 : (Jvm.Cond.initialized "ShortVectorsLaw") ∈ utbl := u_mem (List.mem_of_getElem? (i := 49) (by decide +kernel)) (by decide +kernel)
theorem wd1 : (Jvm.Cond.initialized "ShortVectors") ∈ utbl := u_mem (List.mem_of_getElem? (i := 50) (by decide +kernel)) (by decide +kernel)
theorem wd2 : (Jvm.Cond.initialized "ShortVectors$Echelon") ∈ utbl := u_mem (List.mem_of_getElem? (i := 51) (by decide +kernel)) (by decide +kernel)
theorem wd3 : (Jvm.Cond.initialized "ShortVectors$Basis") ∈ utbl := u_mem (List.mem_of_getElem? (i := 52) (by decide +kernel)) (by decide +kernel)
theorem wd4 : (Jvm.Cond.initialized "ShortVectors$Collector") ∈ utbl := u_mem (List.mem_of_getElem? (i := 53) (by decide +kernel)) (by decide +kernel)
theorem wd5 : (Jvm.Cond.initialized "ShortVectors$Tally") ∈ utbl := u_mem (List.mem_of_getElem? (i := 54) (by decide +kernel)) (by decide +kernel)
theorem wd6 : (Jvm.Cond.initialized "ShortVectors$FirstVectors") ∈ utbl := u_mem (List.mem_of_getElem? (i := 55) (by decide +kernel)) (by decide +kernel)
theorem wd7 : (Jvm.Cond.initialized "ShortVectors$Closest") ∈ utbl := u_mem (List.mem_of_getElem? (i := 56) (by decide +kernel)) (by decide +kernel)
theorem wd8 : (Jvm.Cond.initialized "ShortVectorsModel") ∈ utbl := u_mem (List.mem_of_getElem? (i := 57) (by decide +kernel)) (by decide +kernel)
theorem wd9 : (Jvm.Cond.initialized "java/lang/System") ∈ utbl := u_mem (List.mem_of_getElem? (i := 58) (by decide +kernel)) (by decide +kernel)
theorem wd10 : (Jvm.Cond.initialized "java/lang/Math") ∈ utbl := u_mem (List.mem_of_getElem? (i := 59) (by decide +kernel)) (by decide +kernel)
theorem wd11 : (Jvm.Cond.initialized "java/util/Arrays") ∈ utbl := u_mem (List.mem_of_getElem? (i := 60) (by decide +kernel)) (by decide +kernel)
theorem wd12 : (Jvm.Cond.classLink "ShortVectorsLaw" (7 : Nat) "ShortVectors") ∈ utbl := u_mem (List.mem_of_getElem? (i := 61) (by decide +kernel)) (by decide +kernel)
theorem wd13 : (Jvm.Cond.instantiable "ShortVectors" (12 : Nat)) ∈ utbl := u_mem (List.mem_of_getElem? (i := 62) (by decide +kernel)) (by decide +kernel)
theorem wd14 : (Jvm.Cond.methodLink "ShortVectorsLaw" (9 : Nat) ({ cls := "ShortVectors", name := "<init>", desc := "()V" } : Jvm.MethodName)) ∈ utbl := u_mem (List.mem_of_getElem? (i := 63) (by decide +kernel)) (by decide +kernel)
theorem wd15 : (Jvm.Cond.instanceMethod ({ cls := "ShortVectors", name := "<init>", desc := "()V" } : Jvm.MethodName)) ∈ utbl := u_mem (List.mem_of_getElem? (i := 64) (by decide +kernel)) (by decide +kernel)
theorem wd16 : (Jvm.Cond.code ({ cls := "ShortVectors", name := "<init>", desc := "()V" } : Jvm.MethodName) prog_1_method_1_code (1 : Nat) (Option.none : Option Jvm.ClassFile.FieldType)) ∈ utbl := u_mem (List.mem_of_getElem? (i := 65) (by decide +kernel)) (by decide +kernel)
theorem wd17 : (Jvm.Cond.methodLink "ShortVectors" (1 : Nat) ({ cls := "java/lang/Object", name := "<init>", desc := "()V" } : Jvm.MethodName)) ∈ utbl := u_mem (List.mem_of_getElem? (i := 66) (by decide +kernel)) (by decide +kernel)
theorem wd18 : (Jvm.Cond.instanceMethod ({ cls := "java/lang/Object", name := "<init>", desc := "()V" } : Jvm.MethodName)) ∈ utbl := u_mem (List.mem_of_getElem? (i := 67) (by decide +kernel)) (by decide +kernel)
theorem wd19 : (Jvm.Cond.code ({ cls := "java/lang/Object", name := "<init>", desc := "()V" } : Jvm.MethodName) object_method_1_code (1 : Nat) (Option.none : Option Jvm.ClassFile.FieldType)) ∈ utbl := u_mem (List.mem_of_getElem? (i := 68) (by decide +kernel)) (by decide +kernel)
theorem wd20 : (Jvm.Cond.classLink "ShortVectors" (9 : Nat) "[[J") ∈ utbl := u_mem (List.mem_of_getElem? (i := 69) (by decide +kernel)) (by decide +kernel)
theorem wd22 : (Jvm.Cond.classLink "ShortVectors" (18 : Nat) "ShortVectors$Echelon") ∈ utbl := u_mem (List.mem_of_getElem? (i := 71) (by decide +kernel)) (by decide +kernel)
theorem wd23 : (Jvm.Cond.instantiable "ShortVectors$Echelon" (2 : Nat)) ∈ utbl := u_mem (List.mem_of_getElem? (i := 72) (by decide +kernel)) (by decide +kernel)
theorem wd24 : (Jvm.Cond.methodLinkNest "ShortVectors" (20 : Nat) ({ cls := "ShortVectors$Echelon", name := "<init>", desc := "()V" } : Jvm.MethodName) "ShortVectors") ∈ lw_tbl := List.mem_of_getElem? (i := 73) (by decide +kernel)
theorem wd25 : (Jvm.Cond.instanceMethod ({ cls := "ShortVectors$Echelon", name := "<init>", desc := "()V" } : Jvm.MethodName)) ∈ utbl := u_mem (List.mem_of_getElem? (i := 74) (by decide +kernel)) (by decide +kernel)
theorem wd26 : (Jvm.Cond.code ({ cls := "ShortVectors$Echelon", name := "<init>", desc := "()V" } : Jvm.MethodName) prog_5_method_1_code (1 : Nat) (Option.none : Option Jvm.ClassFile.FieldType)) ∈ utbl := u_mem (List.mem_of_getElem? (i := 75) (by decide +kernel)) (by decide +kernel)
theorem wd27 : (Jvm.Cond.methodLink "ShortVectors$Echelon" (3 : Nat) ({ cls := "java/lang/Object", name := "<init>", desc := "()V" } : Jvm.MethodName)) ∈ utbl := u_mem (List.mem_of_getElem? (i := 76) (by decide +kernel)) (by decide +kernel)
theorem wd28 : (Jvm.Cond.classLink "ShortVectors$Echelon" (9 : Nat) "[[J") ∈ utbl := u_mem (List.mem_of_getElem? (i := 77) (by decide +kernel)) (by decide +kernel)
theorem wd29 : (Jvm.Cond.fieldLink "ShortVectors$Echelon" (11 : Nat) "ShortVectors$Echelon" "rows" "[[J") ∈ utbl := u_mem (List.mem_of_getElem? (i := 78) (by decide +kernel)) (by decide +kernel)
theorem wd30 : (Jvm.Cond.fieldLink "ShortVectors$Echelon" (16 : Nat) "ShortVectors$Echelon" "rest" "[J") ∈ utbl := u_mem (List.mem_of_getElem? (i := 79) (by decide +kernel)) (by decide +kernel)
theorem wd31 : (Jvm.Cond.laysFinal "ShortVectors$Echelon" "ShortVectors$Echelon" "rows" "[[J") ∈ utbl := u_mem (List.mem_of_getElem? (i := 80) (by decide +kernel)) (by decide +kernel)
theorem wd33 : (Jvm.Cond.laysFinal "ShortVectors$Echelon" "ShortVectors$Echelon" "rest" "[J") ∈ utbl := u_mem (List.mem_of_getElem? (i := 82) (by decide +kernel)) (by decide +kernel)
theorem wd36 : (Jvm.Cond.arrayClass Jvm.ClassFile.FieldType.long) ∈ utbl := u_mem (List.mem_of_getElem? (i := 85) (by decide +kernel)) (by decide +kernel)
theorem wd37 : (Jvm.Cond.classLink "ShortVectors" (28 : Nat) "ShortVectors$Basis") ∈ utbl := u_mem (List.mem_of_getElem? (i := 86) (by decide +kernel)) (by decide +kernel)
theorem wd38 : (Jvm.Cond.instantiable "ShortVectors$Basis" (8 : Nat)) ∈ utbl := u_mem (List.mem_of_getElem? (i := 87) (by decide +kernel)) (by decide +kernel)
theorem wd39 : (Jvm.Cond.methodLinkNest "ShortVectors" (30 : Nat) ({ cls := "ShortVectors$Basis", name := "<init>", desc := "()V" } : Jvm.MethodName) "ShortVectors") ∈ lw_tbl := List.mem_of_getElem? (i := 88) (by decide +kernel)
theorem wd40 : (Jvm.Cond.instanceMethod ({ cls := "ShortVectors$Basis", name := "<init>", desc := "()V" } : Jvm.MethodName)) ∈ utbl := u_mem (List.mem_of_getElem? (i := 89) (by decide +kernel)) (by decide +kernel)
theorem wd41 : (Jvm.Cond.code ({ cls := "ShortVectors$Basis", name := "<init>", desc := "()V" } : Jvm.MethodName) prog_2_method_1_code (1 : Nat) (Option.none : Option Jvm.ClassFile.FieldType)) ∈ utbl := u_mem (List.mem_of_getElem? (i := 90) (by decide +kernel)) (by decide +kernel)
theorem wd42 : (Jvm.Cond.methodLink "ShortVectors$Basis" (5 : Nat) ({ cls := "java/lang/Object", name := "<init>", desc := "()V" } : Jvm.MethodName)) ∈ utbl := u_mem (List.mem_of_getElem? (i := 91) (by decide +kernel)) (by decide +kernel)
theorem wd43 : (Jvm.Cond.classLink "ShortVectors$Basis" (11 : Nat) "[[J") ∈ utbl := u_mem (List.mem_of_getElem? (i := 92) (by decide +kernel)) (by decide +kernel)
theorem wd44 : (Jvm.Cond.fieldLink "ShortVectors$Basis" (13 : Nat) "ShortVectors$Basis" "rows" "[[J") ∈ utbl := u_mem (List.mem_of_getElem? (i := 93) (by decide +kernel)) (by decide +kernel)
theorem wd45 : (Jvm.Cond.fieldLink "ShortVectors$Basis" (16 : Nat) "ShortVectors$Basis" "directions" "[[J") ∈ utbl := u_mem (List.mem_of_getElem? (i := 94) (by decide +kernel)) (by decide +kernel)
theorem wd46 : (Jvm.Cond.fieldLink "ShortVectors$Basis" (19 : Nat) "ShortVectors$Basis" "directionSquares" "[J") ∈ utbl := u_mem (List.mem_of_getElem? (i := 95) (by decide +kernel)) (by decide +kernel)
theorem wd47 : (Jvm.Cond.fieldLink "ShortVectors$Basis" (23 : Nat) "ShortVectors$Basis" "strides" "[J") ∈ utbl := u_mem (List.mem_of_getElem? (i := 96) (by decide +kernel)) (by decide +kernel)
theorem wd48 : (Jvm.Cond.fieldLink "ShortVectors$Basis" (26 : Nat) "ShortVectors$Basis" "sums" "[[J") ∈ utbl := u_mem (List.mem_of_getElem? (i := 97) (by decide +kernel)) (by decide +kernel)
theorem wd49 : (Jvm.Cond.fieldLink "ShortVectors$Basis" (29 : Nat) "ShortVectors$Basis" "minors" "[[J") ∈ utbl := u_mem (List.mem_of_getElem? (i := 98) (by decide +kernel)) (by decide +kernel)
theorem wd50 : (Jvm.Cond.fieldLink "ShortVectors$Basis" (32 : Nat) "ShortVectors$Basis" "trial" "[J") ∈ utbl := u_mem (List.mem_of_getElem? (i := 99) (by decide +kernel)) (by decide +kernel)
theorem wd51 : (Jvm.Cond.fieldLink "ShortVectors$Basis" (35 : Nat) "ShortVectors$Basis" "size" "I") ∈ utbl := u_mem (List.mem_of_getElem? (i := 100) (by decide +kernel)) (by decide +kernel)
theorem wd52 : (Jvm.Cond.laysFinal "ShortVectors$Basis" "ShortVectors$Basis" "rows" "[[J") ∈ utbl := u_mem (List.mem_of_getElem? (i := 101) (by decide +kernel)) (by decide +kernel)
theorem wd54 : (Jvm.Cond.laysFinal "ShortVectors$Basis" "ShortVectors$Basis" "directions" "[[J") ∈ utbl := u_mem (List.mem_of_getElem? (i := 103) (by decide +kernel)) (by decide +kernel)
theorem wd56 : (Jvm.Cond.laysFinal "ShortVectors$Basis" "ShortVectors$Basis" "directionSquares" "[J") ∈ utbl := u_mem (List.mem_of_getElem? (i := 105) (by decide +kernel)) (by decide +kernel)
theorem wd58 : (Jvm.Cond.laysFinal "ShortVectors$Basis" "ShortVectors$Basis" "strides" "[J") ∈ utbl := u_mem (List.mem_of_getElem? (i := 107) (by decide +kernel)) (by decide +kernel)
theorem wd60 : (Jvm.Cond.laysFinal "ShortVectors$Basis" "ShortVectors$Basis" "sums" "[[J") ∈ utbl := u_mem (List.mem_of_getElem? (i := 109) (by decide +kernel)) (by decide +kernel)
theorem wd62 : (Jvm.Cond.laysFinal "ShortVectors$Basis" "ShortVectors$Basis" "minors" "[[J") ∈ utbl := u_mem (List.mem_of_getElem? (i := 111) (by decide +kernel)) (by decide +kernel)
theorem wd64 : (Jvm.Cond.laysFinal "ShortVectors$Basis" "ShortVectors$Basis" "trial" "[J") ∈ utbl := u_mem (List.mem_of_getElem? (i := 113) (by decide +kernel)) (by decide +kernel)
theorem wd66 : (Jvm.Cond.lays "ShortVectors$Basis" "ShortVectors$Basis" "size" "I") ∈ utbl := u_mem (List.mem_of_getElem? (i := 115) (by decide +kernel)) (by decide +kernel)
theorem wd69 : (Jvm.Cond.classLink "ShortVectors" (35 : Nat) "ShortVectors$Tally") ∈ utbl := u_mem (List.mem_of_getElem? (i := 118) (by decide +kernel)) (by decide +kernel)
theorem wd70 : (Jvm.Cond.instantiable "ShortVectors$Tally" (3 : Nat)) ∈ utbl := u_mem (List.mem_of_getElem? (i := 119) (by decide +kernel)) (by decide +kernel)
theorem wd71 : (Jvm.Cond.methodLinkNest "ShortVectors" (37 : Nat) ({ cls := "ShortVectors$Tally", name := "<init>", desc := "()V" } : Jvm.MethodName) "ShortVectors") ∈ lw_tbl := List.mem_of_getElem? (i := 120) (by decide +kernel)
theorem wd72 : (Jvm.Cond.instanceMethod ({ cls := "ShortVectors$Tally", name := "<init>", desc := "()V" } : Jvm.MethodName)) ∈ utbl := u_mem (List.mem_of_getElem? (i := 121) (by decide +kernel)) (by decide +kernel)
theorem wd73 : (Jvm.Cond.code ({ cls := "ShortVectors$Tally", name := "<init>", desc := "()V" } : Jvm.MethodName) prog_7_method_1_code (1 : Nat) (Option.none : Option Jvm.ClassFile.FieldType)) ∈ utbl := u_mem (List.mem_of_getElem? (i := 122) (by decide +kernel)) (by decide +kernel)
theorem wd74 : (Jvm.Cond.methodLinkNest "ShortVectors$Tally" (3 : Nat) ({ cls := "ShortVectors$Collector", name := "<init>", desc := "()V" } : Jvm.MethodName) "ShortVectors") ∈ lw_tbl := List.mem_of_getElem? (i := 123) (by decide +kernel)
theorem wd75 : (Jvm.Cond.instanceMethod ({ cls := "ShortVectors$Collector", name := "<init>", desc := "()V" } : Jvm.MethodName)) ∈ utbl := u_mem (List.mem_of_getElem? (i := 124) (by decide +kernel)) (by decide +kernel)
theorem wd76 : (Jvm.Cond.code ({ cls := "ShortVectors$Collector", name := "<init>", desc := "()V" } : Jvm.MethodName) prog_4_method_1_code (1 : Nat) (Option.none : Option Jvm.ClassFile.FieldType)) ∈ utbl := u_mem (List.mem_of_getElem? (i := 125) (by decide +kernel)) (by decide +kernel)
theorem wd77 : (Jvm.Cond.methodLink "ShortVectors$Collector" (3 : Nat) ({ cls := "java/lang/Object", name := "<init>", desc := "()V" } : Jvm.MethodName)) ∈ utbl := u_mem (List.mem_of_getElem? (i := 126) (by decide +kernel)) (by decide +kernel)
theorem wd78 : (Jvm.Cond.fieldLink "ShortVectors$Tally" (9 : Nat) "ShortVectors$Tally" "sums" "[I") ∈ utbl := u_mem (List.mem_of_getElem? (i := 127) (by decide +kernel)) (by decide +kernel)
theorem wd79 : (Jvm.Cond.fieldLink "ShortVectors$Collector" (9 : Nat) "ShortVectors$Collector" "goal" "[J") ∈ utbl := u_mem (List.mem_of_getElem? (i := 128) (by decide +kernel)) (by decide +kernel)
theorem wd80 : (Jvm.Cond.fieldLink "ShortVectors$Collector" (15 : Nat) "ShortVectors$Collector" "budget" "J") ∈ utbl := u_mem (List.mem_of_getElem? (i := 129) (by decide +kernel)) (by decide +kernel)
theorem wd81 : (Jvm.Cond.laysFinal "ShortVectors$Tally" "ShortVectors$Tally" "sums" "[I") ∈ utbl := u_mem (List.mem_of_getElem? (i := 130) (by decide +kernel)) (by decide +kernel)
theorem wd83 : (Jvm.Cond.laysFinal "ShortVectors$Tally" "ShortVectors$Collector" "goal" "[J") ∈ utbl := u_mem (List.mem_of_getElem? (i := 132) (by decide +kernel)) (by decide +kernel)
theorem wd85 : (Jvm.Cond.lays "ShortVectors$Tally" "ShortVectors$Collector" "budget" "J") ∈ utbl := u_mem (List.mem_of_getElem? (i := 134) (by decide +kernel)) (by decide +kernel)
theorem wd88 : (Jvm.Cond.arrayClass Jvm.ClassFile.FieldType.int) ∈ utbl := u_mem (List.mem_of_getElem? (i := 137) (by decide +kernel)) (by decide +kernel)
theorem wd89 : (Jvm.Cond.classLink "ShortVectors" (42 : Nat) "ShortVectors$FirstVectors") ∈ utbl := u_mem (List.mem_of_getElem? (i := 138) (by decide +kernel)) (by decide +kernel)
theorem wd90 : (Jvm.Cond.instantiable "ShortVectors$FirstVectors" (5 : Nat)) ∈ utbl := u_mem (List.mem_of_getElem? (i := 139) (by decide +kernel)) (by decide +kernel)
theorem wd91 : (Jvm.Cond.methodLinkNest "ShortVectors" (44 : Nat) ({ cls := "ShortVectors$FirstVectors", name := "<init>", desc := "()V" } : Jvm.MethodName) "ShortVectors") ∈ lw_tbl := List.mem_of_getElem? (i := 140) (by decide +kernel)
theorem wd92 : (Jvm.Cond.instanceMethod ({ cls := "ShortVectors$FirstVectors", name := "<init>", desc := "()V" } : Jvm.MethodName)) ∈ utbl := u_mem (List.mem_of_getElem? (i := 141) (by decide +kernel)) (by decide +kernel)
theorem wd93 : (Jvm.Cond.code ({ cls := "ShortVectors$FirstVectors", name := "<init>", desc := "()V" } : Jvm.MethodName) prog_6_method_1_code (1 : Nat) (Option.none : Option Jvm.ClassFile.FieldType)) ∈ utbl := u_mem (List.mem_of_getElem? (i := 142) (by decide +kernel)) (by decide +kernel)
theorem wd94 : (Jvm.Cond.methodLinkNest "ShortVectors$FirstVectors" (3 : Nat) ({ cls := "ShortVectors$Collector", name := "<init>", desc := "()V" } : Jvm.MethodName) "ShortVectors") ∈ lw_tbl := List.mem_of_getElem? (i := 143) (by decide +kernel)
theorem wd95 : (Jvm.Cond.classLink "ShortVectors$FirstVectors" (9 : Nat) "[[J") ∈ utbl := u_mem (List.mem_of_getElem? (i := 144) (by decide +kernel)) (by decide +kernel)
theorem wd96 : (Jvm.Cond.fieldLink "ShortVectors$FirstVectors" (11 : Nat) "ShortVectors$FirstVectors" "vectors" "[[J") ∈ utbl := u_mem (List.mem_of_getElem? (i := 145) (by decide +kernel)) (by decide +kernel)
theorem wd97 : (Jvm.Cond.fieldLink "ShortVectors$FirstVectors" (16 : Nat) "ShortVectors$FirstVectors" "squares" "[J") ∈ utbl := u_mem (List.mem_of_getElem? (i := 146) (by decide +kernel)) (by decide +kernel)
theorem wd98 : (Jvm.Cond.fieldLink "ShortVectors$FirstVectors" (20 : Nat) "ShortVectors$FirstVectors" "listLength" "I") ∈ utbl := u_mem (List.mem_of_getElem? (i := 147) (by decide +kernel)) (by decide +kernel)
theorem wd99 : (Jvm.Cond.laysFinal "ShortVectors$FirstVectors" "ShortVectors$FirstVectors" "vectors" "[[J") ∈ utbl := u_mem (List.mem_of_getElem? (i := 148) (by decide +kernel)) (by decide +kernel)
theorem wd101 : (Jvm.Cond.laysFinal "ShortVectors$FirstVectors" "ShortVectors$FirstVectors" "squares" "[J") ∈ utbl := u_mem (List.mem_of_getElem? (i := 150) (by decide +kernel)) (by decide +kernel)
theorem wd103 : (Jvm.Cond.lays "ShortVectors$FirstVectors" "ShortVectors$FirstVectors" "listLength" "I") ∈ utbl := u_mem (List.mem_of_getElem? (i := 152) (by decide +kernel)) (by decide +kernel)
theorem wd105 : (Jvm.Cond.laysFinal "ShortVectors$FirstVectors" "ShortVectors$Collector" "goal" "[J") ∈ utbl := u_mem (List.mem_of_getElem? (i := 154) (by decide +kernel)) (by decide +kernel)
theorem wd106 : (Jvm.Cond.lays "ShortVectors$FirstVectors" "ShortVectors$Collector" "budget" "J") ∈ utbl := u_mem (List.mem_of_getElem? (i := 155) (by decide +kernel)) (by decide +kernel)
theorem wd108 : (Jvm.Cond.classLink "ShortVectors" (49 : Nat) "ShortVectors$Closest") ∈ utbl := u_mem (List.mem_of_getElem? (i := 157) (by decide +kernel)) (by decide +kernel)
theorem wd109 : (Jvm.Cond.instantiable "ShortVectors$Closest" (4 : Nat)) ∈ utbl := u_mem (List.mem_of_getElem? (i := 158) (by decide +kernel)) (by decide +kernel)
theorem wd110 : (Jvm.Cond.methodLinkNest "ShortVectors" (51 : Nat) ({ cls := "ShortVectors$Closest", name := "<init>", desc := "()V" } : Jvm.MethodName) "ShortVectors") ∈ lw_tbl := List.mem_of_getElem? (i := 159) (by decide +kernel)
theorem wd111 : (Jvm.Cond.instanceMethod ({ cls := "ShortVectors$Closest", name := "<init>", desc := "()V" } : Jvm.MethodName)) ∈ utbl := u_mem (List.mem_of_getElem? (i := 160) (by decide +kernel)) (by decide +kernel)
theorem wd112 : (Jvm.Cond.code ({ cls := "ShortVectors$Closest", name := "<init>", desc := "()V" } : Jvm.MethodName) prog_3_method_1_code (1 : Nat) (Option.none : Option Jvm.ClassFile.FieldType)) ∈ utbl := u_mem (List.mem_of_getElem? (i := 161) (by decide +kernel)) (by decide +kernel)
theorem wd113 : (Jvm.Cond.methodLinkNest "ShortVectors$Closest" (3 : Nat) ({ cls := "ShortVectors$Collector", name := "<init>", desc := "()V" } : Jvm.MethodName) "ShortVectors") ∈ lw_tbl := List.mem_of_getElem? (i := 162) (by decide +kernel)
theorem wd114 : (Jvm.Cond.fieldLink "ShortVectors$Closest" (9 : Nat) "ShortVectors$Closest" "best" "[J") ∈ utbl := u_mem (List.mem_of_getElem? (i := 163) (by decide +kernel)) (by decide +kernel)
theorem wd115 : (Jvm.Cond.fieldLink "ShortVectors$Closest" (39 : Nat) "ShortVectors$Closest" "bestSquare" "J") ∈ utbl := u_mem (List.mem_of_getElem? (i := 164) (by decide +kernel)) (by decide +kernel)
theorem wd116 : (Jvm.Cond.laysFinal "ShortVectors$Closest" "ShortVectors$Closest" "best" "[J") ∈ utbl := u_mem (List.mem_of_getElem? (i := 165) (by decide +kernel)) (by decide +kernel)
theorem wd118 : (Jvm.Cond.lays "ShortVectors$Closest" "ShortVectors$Closest" "bestSquare" "J") ∈ utbl := u_mem (List.mem_of_getElem? (i := 167) (by decide +kernel)) (by decide +kernel)
theorem wd120 : (Jvm.Cond.laysFinal "ShortVectors$Closest" "ShortVectors$Collector" "goal" "[J") ∈ utbl := u_mem (List.mem_of_getElem? (i := 169) (by decide +kernel)) (by decide +kernel)
theorem wd121 : (Jvm.Cond.lays "ShortVectors$Closest" "ShortVectors$Collector" "budget" "J") ∈ utbl := u_mem (List.mem_of_getElem? (i := 170) (by decide +kernel)) (by decide +kernel)
theorem wd123 : (Jvm.Cond.fieldLink "ShortVectors" (11 : Nat) "ShortVectors" "added" "[[J") ∈ utbl := u_mem (List.mem_of_getElem? (i := 172) (by decide +kernel)) (by decide +kernel)
theorem wd124 : (Jvm.Cond.fieldLink "ShortVectors" (14 : Nat) "ShortVectors" "asked" "[J") ∈ utbl := u_mem (List.mem_of_getElem? (i := 173) (by decide +kernel)) (by decide +kernel)
theorem wd125 : (Jvm.Cond.fieldLink "ShortVectors" (21 : Nat) "ShortVectors" "echelon" "LShortVectors$Echelon;") ∈ utbl := u_mem (List.mem_of_getElem? (i := 174) (by decide +kernel)) (by decide +kernel)
theorem wd126 : (Jvm.Cond.fieldLink "ShortVectors" (25 : Nat) "ShortVectors" "others" "LShortVectors$Echelon;") ∈ utbl := u_mem (List.mem_of_getElem? (i := 175) (by decide +kernel)) (by decide +kernel)
theorem wd127 : (Jvm.Cond.fieldLink "ShortVectors" (31 : Nat) "ShortVectors" "basis" "LShortVectors$Basis;") ∈ utbl := u_mem (List.mem_of_getElem? (i := 176) (by decide +kernel)) (by decide +kernel)
theorem wd128 : (Jvm.Cond.fieldLink "ShortVectors" (38 : Nat) "ShortVectors" "tally" "LShortVectors$Tally;") ∈ utbl := u_mem (List.mem_of_getElem? (i := 177) (by decide +kernel)) (by decide +kernel)
theorem wd129 : (Jvm.Cond.fieldLink "ShortVectors" (45 : Nat) "ShortVectors" "first" "LShortVectors$FirstVectors;") ∈ utbl := u_mem (List.mem_of_getElem? (i := 178) (by decide +kernel)) (by decide +kernel)
theorem wd130 : (Jvm.Cond.fieldLink "ShortVectors" (52 : Nat) "ShortVectors" "closest" "LShortVectors$Closest;") ∈ utbl := u_mem (List.mem_of_getElem? (i := 179) (by decide +kernel)) (by decide +kernel)
theorem wd131 : (Jvm.Cond.fieldLink "ShortVectors" (56 : Nat) "ShortVectors" "held" "I") ∈ utbl := u_mem (List.mem_of_getElem? (i := 180) (by decide +kernel)) (by decide +kernel)
theorem wd132 : (Jvm.Cond.fieldLink "ShortVectors" (141 : Nat) "ShortVectors" "reduced" "Z") ∈ utbl := u_mem (List.mem_of_getElem? (i := 181) (by decide +kernel)) (by decide +kernel)
theorem wd133 : (Jvm.Cond.fieldLink "ShortVectors" (105 : Nat) "ShortVectors" "tallied" "Z") ∈ utbl := u_mem (List.mem_of_getElem? (i := 182) (by decide +kernel)) (by decide +kernel)
theorem wd134 : (Jvm.Cond.fieldLink "ShortVectors" (121 : Nat) "ShortVectors" "listed" "Z") ∈ utbl := u_mem (List.mem_of_getElem? (i := 183) (by decide +kernel)) (by decide +kernel)
theorem wd135 : (Jvm.Cond.laysFinal "ShortVectors" "ShortVectors" "added" "[[J") ∈ utbl := u_mem (List.mem_of_getElem? (i := 184) (by decide +kernel)) (by decide +kernel)
theorem wd137 : (Jvm.Cond.laysFinal "ShortVectors" "ShortVectors" "asked" "[J") ∈ utbl := u_mem (List.mem_of_getElem? (i := 186) (by decide +kernel)) (by decide +kernel)
theorem wd139 : (Jvm.Cond.laysFinal "ShortVectors" "ShortVectors" "echelon" "LShortVectors$Echelon;") ∈ utbl := u_mem (List.mem_of_getElem? (i := 188) (by decide +kernel)) (by decide +kernel)
theorem wd141 : (Jvm.Cond.laysFinal "ShortVectors" "ShortVectors" "others" "LShortVectors$Echelon;") ∈ utbl := u_mem (List.mem_of_getElem? (i := 190) (by decide +kernel)) (by decide +kernel)
theorem wd143 : (Jvm.Cond.laysFinal "ShortVectors" "ShortVectors" "basis" "LShortVectors$Basis;") ∈ utbl := u_mem (List.mem_of_getElem? (i := 192) (by decide +kernel)) (by decide +kernel)
theorem wd145 : (Jvm.Cond.laysFinal "ShortVectors" "ShortVectors" "tally" "LShortVectors$Tally;") ∈ utbl := u_mem (List.mem_of_getElem? (i := 194) (by decide +kernel)) (by decide +kernel)
theorem wd147 : (Jvm.Cond.laysFinal "ShortVectors" "ShortVectors" "first" "LShortVectors$FirstVectors;") ∈ utbl := u_mem (List.mem_of_getElem? (i := 196) (by decide +kernel)) (by decide +kernel)
theorem wd149 : (Jvm.Cond.laysFinal "ShortVectors" "ShortVectors" "closest" "LShortVectors$Closest;") ∈ utbl := u_mem (List.mem_of_getElem? (i := 198) (by decide +kernel)) (by decide +kernel)
theorem wd151 : (Jvm.Cond.lays "ShortVectors" "ShortVectors" "held" "I") ∈ utbl := u_mem (List.mem_of_getElem? (i := 200) (by decide +kernel)) (by decide +kernel)
theorem wd153 : (Jvm.Cond.lays "ShortVectors" "ShortVectors" "reduced" "Z") ∈ utbl := u_mem (List.mem_of_getElem? (i := 202) (by decide +kernel)) (by decide +kernel)
theorem wd155 : (Jvm.Cond.lays "ShortVectors" "ShortVectors" "tallied" "Z") ∈ utbl := u_mem (List.mem_of_getElem? (i := 204) (by decide +kernel)) (by decide +kernel)
theorem wd157 : (Jvm.Cond.lays "ShortVectors" "ShortVectors" "listed" "Z") ∈ utbl := u_mem (List.mem_of_getElem? (i := 206) (by decide +kernel)) (by decide +kernel)
theorem wd160 : (Jvm.Cond.methodLink "ShortVectorsLaw" (13 : Nat) ({ cls := "ShortVectors", name := "add", desc := "(IIII)I" } : Jvm.MethodName)) ∈ utbl := u_mem (List.mem_of_getElem? (i := 209) (by decide +kernel)) (by decide +kernel)
theorem wd161 : (Jvm.Cond.instanceMethod ({ cls := "ShortVectors", name := "add", desc := "(IIII)I" } : Jvm.MethodName)) ∈ utbl := u_mem (List.mem_of_getElem? (i := 210) (by decide +kernel)) (by decide +kernel)
theorem wd162 : (Jvm.Cond.selects "ShortVectors" ({ cls := "ShortVectors", name := "add", desc := "(IIII)I" } : Jvm.MethodName) ({ cls := "ShortVectors", name := "add", desc := "(IIII)I" } : Jvm.MethodName)) ∈ utbl := u_mem (List.mem_of_getElem? (i := 211) (by decide +kernel)) (by decide +kernel)
theorem wd163 : (Jvm.Cond.code ({ cls := "ShortVectors", name := "add", desc := "(IIII)I" } : Jvm.MethodName) prog_1_method_2_code (5 : Nat) (Option.some Jvm.ClassFile.FieldType.int)) ∈ utbl := u_mem (List.mem_of_getElem? (i := 212) (by decide +kernel)) (by decide +kernel)
theorem wd164 : (Jvm.Cond.methodLink "ShortVectors" (60 : Nat) ({ cls := "ShortVectors", name := "ask", desc := "(IIIII)Z" } : Jvm.MethodName)) ∈ utbl := u_mem (List.mem_of_getElem? (i := 213) (by decide +kernel)) (by decide +kernel)
theorem wd166 : (Jvm.Cond.instanceMethod ({ cls := "ShortVectors", name := "ask", desc := "(IIIII)Z" } : Jvm.MethodName)) ∈ utbl := u_mem (List.mem_of_getElem? (i := 215) (by decide +kernel)) (by decide +kernel)
theorem wd167 : (Jvm.Cond.code ({ cls := "ShortVectors", name := "ask", desc := "(IIIII)Z" } : Jvm.MethodName) prog_1_method_15_code (7 : Nat) (Option.some Jvm.ClassFile.FieldType.boolean)) ∈ utbl := u_mem (List.mem_of_getElem? (i := 216) (by decide +kernel)) (by decide +kernel)
theorem wd168 : (Jvm.Cond.methodLink "ShortVectors" (64 : Nat) ({ cls := "ShortVectors", name := "copy", desc := "([J[J)V" } : Jvm.MethodName)) ∈ utbl := u_mem (List.mem_of_getElem? (i := 217) (by decide +kernel)) (by decide +kernel)
theorem wd169 : (Jvm.Cond.static ({ cls := "ShortVectors", name := "copy", desc := "([J[J)V" } : Jvm.MethodName)) ∈ utbl := u_mem (List.mem_of_getElem? (i := 218) (by decide +kernel)) (by decide +kernel)
theorem wd170 : (Jvm.Cond.code ({ cls := "ShortVectors", name := "copy", desc := "([J[J)V" } : Jvm.MethodName) prog_1_method_20_code (2 : Nat) (Option.none : Option Jvm.ClassFile.FieldType)) ∈ utbl := u_mem (List.mem_of_getElem? (i := 219) (by decide +kernel)) (by decide +kernel)
theorem wd171 : (Jvm.Cond.methodLink "ShortVectors" (148 : Nat) ({ cls := "java/lang/System", name := "arraycopy", desc := "(Ljava/lang/Object;ILjava/lang/Object;II)V" } : Jvm.MethodName)) ∈ utbl := u_mem (List.mem_of_getElem? (i := 220) (by decide +kernel)) (by decide +kernel)
theorem wd172 : (Jvm.Cond.static ({ cls := "java/lang/System", name := "arraycopy", desc := "(Ljava/lang/Object;ILjava/lang/Object;II)V" } : Jvm.MethodName)) ∈ utbl := u_mem (List.mem_of_getElem? (i := 221) (by decide +kernel)) (by decide +kernel)
theorem wd173 : (Jvm.Cond.native ({ cls := "java/lang/System", name := "arraycopy", desc := "(Ljava/lang/Object;ILjava/lang/Object;II)V" } : Jvm.MethodName)) ∈ utbl := u_mem (List.mem_of_getElem? (i := 222) (by decide +kernel)) (by decide +kernel)
theorem wd174 : (Jvm.Cond.methodLink "ShortVectors" (68 : Nat) ({ cls := "ShortVectors$Echelon", name := "include", desc := "([J)V" } : Jvm.MethodName)) ∈ utbl := u_mem (List.mem_of_getElem? (i := 223) (by decide +kernel)) (by decide +kernel)
theorem wd175 : (Jvm.Cond.instanceMethod ({ cls := "ShortVectors$Echelon", name := "include", desc := "([J)V" } : Jvm.MethodName)) ∈ utbl := u_mem (List.mem_of_getElem? (i := 224) (by decide +kernel)) (by decide +kernel)
theorem wd176 : (Jvm.Cond.selects "ShortVectors$Echelon" ({ cls := "ShortVectors$Echelon", name := "include", desc := "([J)V" } : Jvm.MethodName) ({ cls := "ShortVectors$Echelon", name := "include", desc := "([J)V" } : Jvm.MethodName)) ∈ utbl := u_mem (List.mem_of_getElem? (i := 225) (by decide +kernel)) (by decide +kernel)
theorem wd177 : (Jvm.Cond.code ({ cls := "ShortVectors$Echelon", name := "include", desc := "([J)V" } : Jvm.MethodName) prog_5_method_6_code (3 : Nat) (Option.none : Option Jvm.ClassFile.FieldType)) ∈ utbl := u_mem (List.mem_of_getElem? (i := 226) (by decide +kernel)) (by decide +kernel)
theorem wd178 : (Jvm.Cond.methodLinkNest "ShortVectors$Echelon" (30 : Nat) ({ cls := "ShortVectors", name := "copy", desc := "([J[J)V" } : Jvm.MethodName) "ShortVectors") ∈ lw_tbl := List.mem_of_getElem? (i := 227) (by decide +kernel)
theorem wd179 : (Jvm.Cond.methodLink "ShortVectors$Echelon" (34 : Nat) ({ cls := "ShortVectors$Echelon", name := "merge", desc := "([JI)V" } : Jvm.MethodName)) ∈ utbl := u_mem (List.mem_of_getElem? (i := 228) (by decide +kernel)) (by decide +kernel)
theorem wd181 : (Jvm.Cond.instanceMethod ({ cls := "ShortVectors$Echelon", name := "merge", desc := "([JI)V" } : Jvm.MethodName)) ∈ utbl := u_mem (List.mem_of_getElem? (i := 230) (by decide +kernel)) (by decide +kernel)
theorem wd182 : (Jvm.Cond.code ({ cls := "ShortVectors$Echelon", name := "merge", desc := "([JI)V" } : Jvm.MethodName) prog_5_method_7_code (9 : Nat) (Option.none : Option Jvm.ClassFile.FieldType)) ∈ utbl := u_mem (List.mem_of_getElem? (i := 231) (by decide +kernel)) (by decide +kernel)
theorem wd183 : (Jvm.Cond.constant "ShortVectors$Echelon" (42 : Nat) (1000000 : Int32)) ∈ utbl := u_mem (List.mem_of_getElem? (i := 232) (by decide +kernel)) (by decide +kernel)
theorem wd184 : (Jvm.Cond.constantLong "ShortVectors$Echelon" (43 : Nat) (-2 : Int64)) ∈ utbl := u_mem (List.mem_of_getElem? (i := 233) (by decide +kernel)) (by decide +kernel)
theorem wd185 : (Jvm.Cond.methodLinkNest "ShortVectors$Echelon" (45 : Nat) ({ cls := "ShortVectors", name := "addMultiple", desc := "([J[JJ)V" } : Jvm.MethodName) "ShortVectors") ∈ lw_tbl := List.mem_of_getElem? (i := 234) (by decide +kernel)
theorem wd186 : (Jvm.Cond.static ({ cls := "ShortVectors", name := "addMultiple", desc := "([J[JJ)V" } : Jvm.MethodName)) ∈ utbl := u_mem (List.mem_of_getElem? (i := 235) (by decide +kernel)) (by decide +kernel)
theorem wd187 : (Jvm.Cond.code ({ cls := "ShortVectors", name := "addMultiple", desc := "([J[JJ)V" } : Jvm.MethodName) prog_1_method_21_code (5 : Nat) (Option.none : Option Jvm.ClassFile.FieldType)) ∈ utbl := u_mem (List.mem_of_getElem? (i := 236) (by decide +kernel)) (by decide +kernel)
theorem wd188 : (Jvm.Cond.methodLink "ShortVectors$Echelon" (38 : Nat) ({ cls := "ShortVectors$Echelon", name := "shorten", desc := "(I)V" } : Jvm.MethodName)) ∈ utbl := u_mem (List.mem_of_getElem? (i := 237) (by decide +kernel)) (by decide +kernel)
theorem wd190 : (Jvm.Cond.instanceMethod ({ cls := "ShortVectors$Echelon", name := "shorten", desc := "(I)V" } : Jvm.MethodName)) ∈ utbl := u_mem (List.mem_of_getElem? (i := 239) (by decide +kernel)) (by decide +kernel)
theorem wd191 : (Jvm.Cond.code ({ cls := "ShortVectors$Echelon", name := "shorten", desc := "(I)V" } : Jvm.MethodName) prog_5_method_8_code (3 : Nat) (Option.none : Option Jvm.ClassFile.FieldType)) ∈ utbl := u_mem (List.mem_of_getElem? (i := 240) (by decide +kernel)) (by decide +kernel)
theorem wd192 : (Jvm.Cond.methodLink "ShortVectors$Echelon" (26 : Nat) ({ cls := "ShortVectors$Echelon", name := "isHeld", desc := "(I)Z" } : Jvm.MethodName)) ∈ utbl := u_mem (List.mem_of_getElem? (i := 241) (by decide +kernel)) (by decide +kernel)
theorem wd193 : (Jvm.Cond.instanceMethod ({ cls := "ShortVectors$Echelon", name := "isHeld", desc := "(I)Z" } : Jvm.MethodName)) ∈ utbl := u_mem (List.mem_of_getElem? (i := 242) (by decide +kernel)) (by decide +kernel)
theorem wd194 : (Jvm.Cond.selects "ShortVectors$Echelon" ({ cls := "ShortVectors$Echelon", name := "isHeld", desc := "(I)Z" } : Jvm.MethodName) ({ cls := "ShortVectors$Echelon", name := "isHeld", desc := "(I)Z" } : Jvm.MethodName)) ∈ utbl := u_mem (List.mem_of_getElem? (i := 243) (by decide +kernel)) (by decide +kernel)
theorem wd195 : (Jvm.Cond.code ({ cls := "ShortVectors$Echelon", name := "isHeld", desc := "(I)Z" } : Jvm.MethodName) prog_5_method_4_code (2 : Nat) (Option.some Jvm.ClassFile.FieldType.boolean)) ∈ utbl := u_mem (List.mem_of_getElem? (i := 244) (by decide +kernel)) (by decide +kernel)
theorem wd196 : (Jvm.Cond.methodLink "ShortVectors$Echelon" (49 : Nat) ({ cls := "java/lang/Math", name := "floorDiv", desc := "(JJ)J" } : Jvm.MethodName)) ∈ utbl := u_mem (List.mem_of_getElem? (i := 245) (by decide +kernel)) (by decide +kernel)
theorem wd197 : (Jvm.Cond.static ({ cls := "java/lang/Math", name := "floorDiv", desc := "(JJ)J" } : Jvm.MethodName)) ∈ utbl := u_mem (List.mem_of_getElem? (i := 246) (by decide +kernel)) (by decide +kernel)
theorem wd198 : (Jvm.Cond.code ({ cls := "java/lang/Math", name := "floorDiv", desc := "(JJ)J" } : Jvm.MethodName) prog_10_method_49_code (6 : Nat) (Option.some Jvm.ClassFile.FieldType.long)) ∈ utbl := u_mem (List.mem_of_getElem? (i := 247) (by decide +kernel)) (by decide +kernel)
theorem wd199 : (Jvm.Cond.methodLink "ShortVectors" (72 : Nat) ({ cls := "ShortVectors", name := "forget", desc := "()V" } : Jvm.MethodName)) ∈ utbl := u_mem (List.mem_of_getElem? (i := 248) (by decide +kernel)) (by decide +kernel)
theorem wd201 : (Jvm.Cond.instanceMethod ({ cls := "ShortVectors", name := "forget", desc := "()V" } : Jvm.MethodName)) ∈ utbl := u_mem (List.mem_of_getElem? (i := 250) (by decide +kernel)) (by decide +kernel)
theorem wd202 : (Jvm.Cond.code ({ cls := "ShortVectors", name := "forget", desc := "()V" } : Jvm.MethodName) prog_1_method_17_code (1 : Nat) (Option.none : Option Jvm.ClassFile.FieldType)) ∈ utbl := u_mem (List.mem_of_getElem? (i := 251) (by decide +kernel)) (by decide +kernel)
theorem wd203 : (Jvm.Cond.methodLink "ShortVectorsLaw" (18 : Nat) ({ cls := "ShortVectors", name := "drop", desc := "()Z" } : Jvm.MethodName)) ∈ utbl := u_mem (List.mem_of_getElem? (i := 252) (by decide +kernel)) (by decide +kernel)
theorem wd204 : (Jvm.Cond.instanceMethod ({ cls := "ShortVectors", name := "drop", desc := "()Z" } : Jvm.MethodName)) ∈ utbl := u_mem (List.mem_of_getElem? (i := 253) (by decide +kernel)) (by decide +kernel)
theorem wd205 : (Jvm.Cond.selects "ShortVectors" ({ cls := "ShortVectors", name := "drop", desc := "()Z" } : Jvm.MethodName) ({ cls := "ShortVectors", name := "drop", desc := "()Z" } : Jvm.MethodName)) ∈ utbl := u_mem (List.mem_of_getElem? (i := 254) (by decide +kernel)) (by decide +kernel)
theorem wd206 : (Jvm.Cond.code ({ cls := "ShortVectors", name := "drop", desc := "()Z" } : Jvm.MethodName) prog_1_method_3_code (1 : Nat) (Option.some Jvm.ClassFile.FieldType.boolean)) ∈ utbl := u_mem (List.mem_of_getElem? (i := 255) (by decide +kernel)) (by decide +kernel)
theorem wd207 : (Jvm.Cond.methodLink "ShortVectors" (75 : Nat) ({ cls := "ShortVectors", name := "gather", desc := "(LShortVectors$Echelon;I)V" } : Jvm.MethodName)) ∈ utbl := u_mem (List.mem_of_getElem? (i := 256) (by decide +kernel)) (by decide +kernel)
theorem wd209 : (Jvm.Cond.instanceMethod ({ cls := "ShortVectors", name := "gather", desc := "(LShortVectors$Echelon;I)V" } : Jvm.MethodName)) ∈ utbl := u_mem (List.mem_of_getElem? (i := 258) (by decide +kernel)) (by decide +kernel)
theorem wd210 : (Jvm.Cond.code ({ cls := "ShortVectors", name := "gather", desc := "(LShortVectors$Echelon;I)V" } : Jvm.MethodName) prog_1_method_16_code (4 : Nat) (Option.none : Option Jvm.ClassFile.FieldType)) ∈ utbl := u_mem (List.mem_of_getElem? (i := 259) (by decide +kernel)) (by decide +kernel)
theorem wd211 : (Jvm.Cond.methodLink "ShortVectors" (138 : Nat) ({ cls := "ShortVectors$Echelon", name := "clear", desc := "()V" } : Jvm.MethodName)) ∈ utbl := u_mem (List.mem_of_getElem? (i := 260) (by decide +kernel)) (by decide +kernel)
theorem wd212 : (Jvm.Cond.instanceMethod ({ cls := "ShortVectors$Echelon", name := "clear", desc := "()V" } : Jvm.MethodName)) ∈ utbl := u_mem (List.mem_of_getElem? (i := 261) (by decide +kernel)) (by decide +kernel)
theorem wd213 : (Jvm.Cond.selects "ShortVectors$Echelon" ({ cls := "ShortVectors$Echelon", name := "clear", desc := "()V" } : Jvm.MethodName) ({ cls := "ShortVectors$Echelon", name := "clear", desc := "()V" } : Jvm.MethodName)) ∈ utbl := u_mem (List.mem_of_getElem? (i := 262) (by decide +kernel)) (by decide +kernel)
theorem wd214 : (Jvm.Cond.code ({ cls := "ShortVectors$Echelon", name := "clear", desc := "()V" } : Jvm.MethodName) prog_5_method_2_code (2 : Nat) (Option.none : Option Jvm.ClassFile.FieldType)) ∈ utbl := u_mem (List.mem_of_getElem? (i := 263) (by decide +kernel)) (by decide +kernel)
theorem wd215 : (Jvm.Cond.methodLink "ShortVectors$Echelon" (20 : Nat) ({ cls := "java/util/Arrays", name := "fill", desc := "([JJ)V" } : Jvm.MethodName)) ∈ utbl := u_mem (List.mem_of_getElem? (i := 264) (by decide +kernel)) (by decide +kernel)
theorem wd216 : (Jvm.Cond.static ({ cls := "java/util/Arrays", name := "fill", desc := "([JJ)V" } : Jvm.MethodName)) ∈ utbl := u_mem (List.mem_of_getElem? (i := 265) (by decide +kernel)) (by decide +kernel)
theorem wd217 : (Jvm.Cond.code ({ cls := "java/util/Arrays", name := "fill", desc := "([JJ)V" } : Jvm.MethodName) prog_12_method_101_code (5 : Nat) (Option.none : Option Jvm.ClassFile.FieldType)) ∈ utbl := u_mem (List.mem_of_getElem? (i := 266) (by decide +kernel)) (by decide +kernel)
theorem wd218 : (Jvm.Cond.methodLink "ShortVectorsLaw" (23 : Nat) ({ cls := "ShortVectors", name := "generators", desc := "()I" } : Jvm.MethodName)) ∈ utbl := u_mem (List.mem_of_getElem? (i := 267) (by decide +kernel)) (by decide +kernel)
theorem wd219 : (Jvm.Cond.instanceMethod ({ cls := "ShortVectors", name := "generators", desc := "()I" } : Jvm.MethodName)) ∈ utbl := u_mem (List.mem_of_getElem? (i := 268) (by decide +kernel)) (by decide +kernel)
theorem wd220 : (Jvm.Cond.selects "ShortVectors" ({ cls := "ShortVectors", name := "generators", desc := "()I" } : Jvm.MethodName) ({ cls := "ShortVectors", name := "generators", desc := "()I" } : Jvm.MethodName)) ∈ utbl := u_mem (List.mem_of_getElem? (i := 269) (by decide +kernel)) (by decide +kernel)
theorem wd221 : (Jvm.Cond.code ({ cls := "ShortVectors", name := "generators", desc := "()I" } : Jvm.MethodName) prog_1_method_4_code (1 : Nat) (Option.some Jvm.ClassFile.FieldType.int)) ∈ utbl := u_mem (List.mem_of_getElem? (i := 270) (by decide +kernel)) (by decide +kernel)
theorem wd222 : (Jvm.Cond.methodLink "ShortVectorsLaw" (28 : Nat) ({ cls := "ShortVectors", name := "rank", desc := "()I" } : Jvm.MethodName)) ∈ utbl := u_mem (List.mem_of_getElem? (i := 271) (by decide +kernel)) (by decide +kernel)
theorem wd223 : (Jvm.Cond.instanceMethod ({ cls := "ShortVectors", name := "rank", desc := "()I" } : Jvm.MethodName)) ∈ utbl := u_mem (List.mem_of_getElem? (i := 272) (by decide +kernel)) (by decide +kernel)
theorem wd224 : (Jvm.Cond.selects "ShortVectors" ({ cls := "ShortVectors", name := "rank", desc := "()I" } : Jvm.MethodName) ({ cls := "ShortVectors", name := "rank", desc := "()I" } : Jvm.MethodName)) ∈ utbl := u_mem (List.mem_of_getElem? (i := 273) (by decide +kernel)) (by decide +kernel)
theorem wd225 : (Jvm.Cond.code ({ cls := "ShortVectors", name := "rank", desc := "()I" } : Jvm.MethodName) prog_1_method_5_code (1 : Nat) (Option.some Jvm.ClassFile.FieldType.int)) ∈ utbl := u_mem (List.mem_of_getElem? (i := 274) (by decide +kernel)) (by decide +kernel)
theorem wd226 : (Jvm.Cond.methodLink "ShortVectors" (79 : Nat) ({ cls := "ShortVectors$Echelon", name := "size", desc := "()I" } : Jvm.MethodName)) ∈ utbl := u_mem (List.mem_of_getElem? (i := 275) (by decide +kernel)) (by decide +kernel)
theorem wd227 : (Jvm.Cond.instanceMethod ({ cls := "ShortVectors$Echelon", name := "size", desc := "()I" } : Jvm.MethodName)) ∈ utbl := u_mem (List.mem_of_getElem? (i := 276) (by decide +kernel)) (by decide +kernel)
theorem wd228 : (Jvm.Cond.selects "ShortVectors$Echelon" ({ cls := "ShortVectors$Echelon", name := "size", desc := "()I" } : Jvm.MethodName) ({ cls := "ShortVectors$Echelon", name := "size", desc := "()I" } : Jvm.MethodName)) ∈ utbl := u_mem (List.mem_of_getElem? (i := 277) (by decide +kernel)) (by decide +kernel)
theorem wd229 : (Jvm.Cond.code ({ cls := "ShortVectors$Echelon", name := "size", desc := "()I" } : Jvm.MethodName) prog_5_method_3_code (3 : Nat) (Option.some Jvm.ClassFile.FieldType.int)) ∈ utbl := u_mem (List.mem_of_getElem? (i := 278) (by decide +kernel)) (by decide +kernel)
theorem wd230 : (Jvm.Cond.methodLink "ShortVectorsLaw" (32 : Nat) ({ cls := "ShortVectors", name := "volume", desc := "()J" } : Jvm.MethodName)) ∈ utbl := u_mem (List.mem_of_getElem? (i := 279) (by decide +kernel)) (by decide +kernel)
theorem wd231 : (Jvm.Cond.instanceMethod ({ cls := "ShortVectors", name := "volume", desc := "()J" } : Jvm.MethodName)) ∈ utbl := u_mem (List.mem_of_getElem? (i := 280) (by decide +kernel)) (by decide +kernel)
theorem wd232 : (Jvm.Cond.selects "ShortVectors" ({ cls := "ShortVectors", name := "volume", desc := "()J" } : Jvm.MethodName) ({ cls := "ShortVectors", name := "volume", desc := "()J" } : Jvm.MethodName)) ∈ utbl := u_mem (List.mem_of_getElem? (i := 281) (by decide +kernel)) (by decide +kernel)
theorem wd233 : (Jvm.Cond.code ({ cls := "ShortVectors", name := "volume", desc := "()J" } : Jvm.MethodName) prog_1_method_6_code (1 : Nat) (Option.some Jvm.ClassFile.FieldType.long)) ∈ utbl := u_mem (List.mem_of_getElem? (i := 282) (by decide +kernel)) (by decide +kernel)
theorem wd234 : (Jvm.Cond.methodLink "ShortVectors" (83 : Nat) ({ cls := "ShortVectors", name := "readyBasis", desc := "()LShortVectors$Basis;" } : Jvm.MethodName)) ∈ utbl := u_mem (List.mem_of_getElem? (i := 283) (by decide +kernel)) (by decide +kernel)
theorem wd236 : (Jvm.Cond.instanceMethod ({ cls := "ShortVectors", name := "readyBasis", desc := "()LShortVectors$Basis;" } : Jvm.MethodName)) ∈ utbl := u_mem (List.mem_of_getElem? (i := 285) (by decide +kernel)) (by decide +kernel)
theorem wd237 : (Jvm.Cond.code ({ cls := "ShortVectors", name := "readyBasis", desc := "()LShortVectors$Basis;" } : Jvm.MethodName) prog_1_method_18_code (1 : Nat) (Option.some (Jvm.ClassFile.FieldType.object "ShortVectors$Basis"))) ∈ utbl := u_mem (List.mem_of_getElem? (i := 286) (by decide +kernel)) (by decide +kernel)
theorem wd238 : (Jvm.Cond.methodLink "ShortVectors" (144 : Nat) ({ cls := "ShortVectors$Basis", name := "take", desc := "(LShortVectors$Echelon;)V" } : Jvm.MethodName)) ∈ utbl := u_mem (List.mem_of_getElem? (i := 287) (by decide +kernel)) (by decide +kernel)
theorem wd239 : (Jvm.Cond.instanceMethod ({ cls := "ShortVectors$Basis", name := "take", desc := "(LShortVectors$Echelon;)V" } : Jvm.MethodName)) ∈ utbl := u_mem (List.mem_of_getElem? (i := 288) (by decide +kernel)) (by decide +kernel)
theorem wd240 : (Jvm.Cond.selects "ShortVectors$Basis" ({ cls := "ShortVectors$Basis", name := "take", desc := "(LShortVectors$Echelon;)V" } : Jvm.MethodName) ({ cls := "ShortVectors$Basis", name := "take", desc := "(LShortVectors$Echelon;)V" } : Jvm.MethodName)) ∈ utbl := u_mem (List.mem_of_getElem? (i := 289) (by decide +kernel)) (by decide +kernel)
theorem wd241 : (Jvm.Cond.code ({ cls := "ShortVectors$Basis", name := "take", desc := "(LShortVectors$Echelon;)V" } : Jvm.MethodName) prog_2_method_2_code (3 : Nat) (Option.none : Option Jvm.ClassFile.FieldType)) ∈ utbl := u_mem (List.mem_of_getElem? (i := 290) (by decide +kernel)) (by decide +kernel)
theorem wd242 : (Jvm.Cond.methodLink "ShortVectors$Basis" (39 : Nat) ({ cls := "ShortVectors$Echelon", name := "isHeld", desc := "(I)Z" } : Jvm.MethodName)) ∈ utbl := u_mem (List.mem_of_getElem? (i := 291) (by decide +kernel)) (by decide +kernel)
theorem wd243 : (Jvm.Cond.methodLink "ShortVectors$Basis" (45 : Nat) ({ cls := "ShortVectors$Echelon", name := "row", desc := "(I)[J" } : Jvm.MethodName)) ∈ utbl := u_mem (List.mem_of_getElem? (i := 292) (by decide +kernel)) (by decide +kernel)
theorem wd244 : (Jvm.Cond.instanceMethod ({ cls := "ShortVectors$Echelon", name := "row", desc := "(I)[J" } : Jvm.MethodName)) ∈ utbl := u_mem (List.mem_of_getElem? (i := 293) (by decide +kernel)) (by decide +kernel)
theorem wd245 : (Jvm.Cond.selects "ShortVectors$Echelon" ({ cls := "ShortVectors$Echelon", name := "row", desc := "(I)[J" } : Jvm.MethodName) ({ cls := "ShortVectors$Echelon", name := "row", desc := "(I)[J" } : Jvm.MethodName)) ∈ utbl := u_mem (List.mem_of_getElem? (i := 294) (by decide +kernel)) (by decide +kernel)
theorem wd246 : (Jvm.Cond.code ({ cls := "ShortVectors$Echelon", name := "row", desc := "(I)[J" } : Jvm.MethodName) prog_5_method_5_code (2 : Nat) (Option.some (Jvm.ClassFile.FieldType.array Jvm.ClassFile.FieldType.long))) ∈ utbl := u_mem (List.mem_of_getElem? (i := 295) (by decide +kernel)) (by decide +kernel)
theorem wd247 : (Jvm.Cond.methodLinkNest "ShortVectors$Basis" (49 : Nat) ({ cls := "ShortVectors", name := "copy", desc := "([J[J)V" } : Jvm.MethodName) "ShortVectors") ∈ lw_tbl := List.mem_of_getElem? (i := 296) (by decide +kernel)
theorem wd248 : (Jvm.Cond.methodLink "ShortVectors$Basis" (53 : Nat) ({ cls := "ShortVectors$Basis", name := "reduce", desc := "()V" } : Jvm.MethodName)) ∈ utbl := u_mem (List.mem_of_getElem? (i := 297) (by decide +kernel)) (by decide +kernel)
theorem wd250 : (Jvm.Cond.instanceMethod ({ cls := "ShortVectors$Basis", name := "reduce", desc := "()V" } : Jvm.MethodName)) ∈ utbl := u_mem (List.mem_of_getElem? (i := 299) (by decide +kernel)) (by decide +kernel)
theorem wd251 : (Jvm.Cond.code ({ cls := "ShortVectors$Basis", name := "reduce", desc := "()V" } : Jvm.MethodName) prog_2_method_5_code (3 : Nat) (Option.none : Option Jvm.ClassFile.FieldType)) ∈ utbl := u_mem (List.mem_of_getElem? (i := 300) (by decide +kernel)) (by decide +kernel)
theorem wd252 : (Jvm.Cond.constant "ShortVectors$Basis" (71 : Nat) (1000000 : Int32)) ∈ utbl := u_mem (List.mem_of_getElem? (i := 301) (by decide +kernel)) (by decide +kernel)
theorem wd253 : (Jvm.Cond.methodLink "ShortVectors$Basis" (72 : Nat) ({ cls := "ShortVectors$Basis", name := "shortenByPairs", desc := "()Z" } : Jvm.MethodName)) ∈ utbl := u_mem (List.mem_of_getElem? (i := 302) (by decide +kernel)) (by decide +kernel)
theorem wd255 : (Jvm.Cond.instanceMethod ({ cls := "ShortVectors$Basis", name := "shortenByPairs", desc := "()Z" } : Jvm.MethodName)) ∈ utbl := u_mem (List.mem_of_getElem? (i := 304) (by decide +kernel)) (by decide +kernel)
theorem wd256 : (Jvm.Cond.code ({ cls := "ShortVectors$Basis", name := "shortenByPairs", desc := "()Z" } : Jvm.MethodName) prog_2_method_6_code (4 : Nat) (Option.some Jvm.ClassFile.FieldType.boolean)) ∈ utbl := u_mem (List.mem_of_getElem? (i := 305) (by decide +kernel)) (by decide +kernel)
theorem wd257 : (Jvm.Cond.methodLink "ShortVectors$Basis" (79 : Nat) ({ cls := "ShortVectors$Basis", name := "shortenBy", desc := "(II)Z" } : Jvm.MethodName)) ∈ utbl := u_mem (List.mem_of_getElem? (i := 306) (by decide +kernel)) (by decide +kernel)
theorem wd259 : (Jvm.Cond.instanceMethod ({ cls := "ShortVectors$Basis", name := "shortenBy", desc := "(II)Z" } : Jvm.MethodName)) ∈ utbl := u_mem (List.mem_of_getElem? (i := 308) (by decide +kernel)) (by decide +kernel)
theorem wd260 : (Jvm.Cond.code ({ cls := "ShortVectors$Basis", name := "shortenBy", desc := "(II)Z" } : Jvm.MethodName) prog_2_method_7_code (7 : Nat) (Option.some Jvm.ClassFile.FieldType.boolean)) ∈ utbl := u_mem (List.mem_of_getElem? (i := 309) (by decide +kernel)) (by decide +kernel)
theorem wd261 : (Jvm.Cond.methodLinkNest "ShortVectors$Basis" (63 : Nat) ({ cls := "ShortVectors", name := "product", desc := "([J[J)J" } : Jvm.MethodName) "ShortVectors") ∈ lw_tbl := List.mem_of_getElem? (i := 310) (by decide +kernel)
theorem wd262 : (Jvm.Cond.static ({ cls := "ShortVectors", name := "product", desc := "([J[J)J" } : Jvm.MethodName)) ∈ utbl := u_mem (List.mem_of_getElem? (i := 311) (by decide +kernel)) (by decide +kernel)
theorem wd263 : (Jvm.Cond.code ({ cls := "ShortVectors", name := "product", desc := "([J[J)J" } : Jvm.MethodName) prog_1_method_22_code (5 : Nat) (Option.some Jvm.ClassFile.FieldType.long)) ∈ utbl := u_mem (List.mem_of_getElem? (i := 312) (by decide +kernel)) (by decide +kernel)
theorem wd264 : (Jvm.Cond.constantLong "ShortVectors$Basis" (83 : Nat) (2 : Int64)) ∈ utbl := u_mem (List.mem_of_getElem? (i := 313) (by decide +kernel)) (by decide +kernel)
theorem wd265 : (Jvm.Cond.methodLink "ShortVectors$Basis" (85 : Nat) ({ cls := "java/lang/Math", name := "abs", desc := "(J)J" } : Jvm.MethodName)) ∈ utbl := u_mem (List.mem_of_getElem? (i := 314) (by decide +kernel)) (by decide +kernel)
theorem wd266 : (Jvm.Cond.static ({ cls := "java/lang/Math", name := "abs", desc := "(J)J" } : Jvm.MethodName)) ∈ utbl := u_mem (List.mem_of_getElem? (i := 315) (by decide +kernel)) (by decide +kernel)
theorem wd267 : (Jvm.Cond.code ({ cls := "java/lang/Math", name := "abs", desc := "(J)J" } : Jvm.MethodName) prog_10_method_61_code (2 : Nat) (Option.some Jvm.ClassFile.FieldType.long)) ∈ utbl := u_mem (List.mem_of_getElem? (i := 316) (by decide +kernel)) (by decide +kernel)
theorem wd268 : (Jvm.Cond.methodLinkNest "ShortVectors$Basis" (91 : Nat) ({ cls := "ShortVectors", name := "nearestQuotient", desc := "(JJ)J" } : Jvm.MethodName) "ShortVectors") ∈ lw_tbl := List.mem_of_getElem? (i := 317) (by decide +kernel)
theorem wd269 : (Jvm.Cond.static ({ cls := "ShortVectors", name := "nearestQuotient", desc := "(JJ)J" } : Jvm.MethodName)) ∈ utbl := u_mem (List.mem_of_getElem? (i := 318) (by decide +kernel)) (by decide +kernel)
theorem wd270 : (Jvm.Cond.code ({ cls := "ShortVectors", name := "nearestQuotient", desc := "(JJ)J" } : Jvm.MethodName) prog_1_method_25_code (4 : Nat) (Option.some Jvm.ClassFile.FieldType.long)) ∈ utbl := u_mem (List.mem_of_getElem? (i := 319) (by decide +kernel)) (by decide +kernel)
theorem wd271 : (Jvm.Cond.constantLong "ShortVectors" (161 : Nat) (2 : Int64)) ∈ utbl := u_mem (List.mem_of_getElem? (i := 320) (by decide +kernel)) (by decide +kernel)
theorem wd272 : (Jvm.Cond.methodLink "ShortVectors" (163 : Nat) ({ cls := "java/lang/Math", name := "floorDiv", desc := "(JJ)J" } : Jvm.MethodName)) ∈ utbl := u_mem (List.mem_of_getElem? (i := 321) (by decide +kernel)) (by decide +kernel)
theorem wd273 : (Jvm.Cond.methodLinkNest "ShortVectors$Basis" (95 : Nat) ({ cls := "ShortVectors", name := "addMultiple", desc := "([J[JJ)V" } : Jvm.MethodName) "ShortVectors") ∈ lw_tbl := List.mem_of_getElem? (i := 322) (by decide +kernel)
theorem wd274 : (Jvm.Cond.methodLink "ShortVectors$Basis" (76 : Nat) ({ cls := "ShortVectors$Basis", name := "shortenBySums", desc := "()Z" } : Jvm.MethodName)) ∈ utbl := u_mem (List.mem_of_getElem? (i := 323) (by decide +kernel)) (by decide +kernel)
theorem wd276 : (Jvm.Cond.instanceMethod ({ cls := "ShortVectors$Basis", name := "shortenBySums", desc := "()Z" } : Jvm.MethodName)) ∈ utbl := u_mem (List.mem_of_getElem? (i := 325) (by decide +kernel)) (by decide +kernel)
theorem wd277 : (Jvm.Cond.code ({ cls := "ShortVectors$Basis", name := "shortenBySums", desc := "()Z" } : Jvm.MethodName) prog_2_method_8_code (5 : Nat) (Option.some Jvm.ClassFile.FieldType.boolean)) ∈ utbl := u_mem (List.mem_of_getElem? (i := 326) (by decide +kernel)) (by decide +kernel)
theorem wd278 : (Jvm.Cond.methodLink "ShortVectors$Basis" (99 : Nat) ({ cls := "ShortVectors$Basis", name := "shortenByChoice", desc := "(II)Z" } : Jvm.MethodName)) ∈ utbl := u_mem (List.mem_of_getElem? (i := 327) (by decide +kernel)) (by decide +kernel)
theorem wd280 : (Jvm.Cond.instanceMethod ({ cls := "ShortVectors$Basis", name := "shortenByChoice", desc := "(II)Z" } : Jvm.MethodName)) ∈ utbl := u_mem (List.mem_of_getElem? (i := 329) (by decide +kernel)) (by decide +kernel)
theorem wd281 : (Jvm.Cond.code ({ cls := "ShortVectors$Basis", name := "shortenByChoice", desc := "(II)Z" } : Jvm.MethodName) prog_2_method_9_code (5 : Nat) (Option.some Jvm.ClassFile.FieldType.boolean)) ∈ utbl := u_mem (List.mem_of_getElem? (i := 330) (by decide +kernel)) (by decide +kernel)
theorem wd282 : (Jvm.Cond.methodLink "ShortVectors$Basis" (56 : Nat) ({ cls := "ShortVectors$Basis", name := "sort", desc := "()V" } : Jvm.MethodName)) ∈ utbl := u_mem (List.mem_of_getElem? (i := 331) (by decide +kernel)) (by decide +kernel)
theorem wd284 : (Jvm.Cond.instanceMethod ({ cls := "ShortVectors$Basis", name := "sort", desc := "()V" } : Jvm.MethodName)) ∈ utbl := u_mem (List.mem_of_getElem? (i := 333) (by decide +kernel)) (by decide +kernel)
theorem wd285 : (Jvm.Cond.code ({ cls := "ShortVectors$Basis", name := "sort", desc := "()V" } : Jvm.MethodName) prog_2_method_10_code (3 : Nat) (Option.none : Option Jvm.ClassFile.FieldType)) ∈ utbl := u_mem (List.mem_of_getElem? (i := 334) (by decide +kernel)) (by decide +kernel)
theorem wd286 : (Jvm.Cond.methodLink "ShortVectors$Basis" (67 : Nat) ({ cls := "ShortVectors$Basis", name := "squareOf", desc := "(I)J" } : Jvm.MethodName)) ∈ utbl := u_mem (List.mem_of_getElem? (i := 335) (by decide +kernel)) (by decide +kernel)
theorem wd287 : (Jvm.Cond.instanceMethod ({ cls := "ShortVectors$Basis", name := "squareOf", desc := "(I)J" } : Jvm.MethodName)) ∈ utbl := u_mem (List.mem_of_getElem? (i := 336) (by decide +kernel)) (by decide +kernel)
theorem wd288 : (Jvm.Cond.selects "ShortVectors$Basis" ({ cls := "ShortVectors$Basis", name := "squareOf", desc := "(I)J" } : Jvm.MethodName) ({ cls := "ShortVectors$Basis", name := "squareOf", desc := "(I)J" } : Jvm.MethodName)) ∈ utbl := u_mem (List.mem_of_getElem? (i := 337) (by decide +kernel)) (by decide +kernel)
theorem wd289 : (Jvm.Cond.code ({ cls := "ShortVectors$Basis", name := "squareOf", desc := "(I)J" } : Jvm.MethodName) prog_2_method_3_code (2 : Nat) (Option.some Jvm.ClassFile.FieldType.long)) ∈ utbl := u_mem (List.mem_of_getElem? (i := 338) (by decide +kernel)) (by decide +kernel)
theorem wd290 : (Jvm.Cond.methodLink "ShortVectors$Basis" (59 : Nat) ({ cls := "ShortVectors$Basis", name := "direct", desc := "(I)V" } : Jvm.MethodName)) ∈ utbl := u_mem (List.mem_of_getElem? (i := 339) (by decide +kernel)) (by decide +kernel)
theorem wd292 : (Jvm.Cond.instanceMethod ({ cls := "ShortVectors$Basis", name := "direct", desc := "(I)V" } : Jvm.MethodName)) ∈ utbl := u_mem (List.mem_of_getElem? (i := 341) (by decide +kernel)) (by decide +kernel)
theorem wd293 : (Jvm.Cond.code ({ cls := "ShortVectors$Basis", name := "direct", desc := "(I)V" } : Jvm.MethodName) prog_2_method_11_code (4 : Nat) (Option.none : Option Jvm.ClassFile.FieldType)) ∈ utbl := u_mem (List.mem_of_getElem? (i := 342) (by decide +kernel)) (by decide +kernel)
theorem wd294 : (Jvm.Cond.methodLink "ShortVectors$Basis" (102 : Nat) ({ cls := "ShortVectors$Basis", name := "turnAway", desc := "([J[JJ)V" } : Jvm.MethodName)) ∈ utbl := u_mem (List.mem_of_getElem? (i := 343) (by decide +kernel)) (by decide +kernel)
theorem wd295 : (Jvm.Cond.static ({ cls := "ShortVectors$Basis", name := "turnAway", desc := "([J[JJ)V" } : Jvm.MethodName)) ∈ utbl := u_mem (List.mem_of_getElem? (i := 344) (by decide +kernel)) (by decide +kernel)
theorem wd296 : (Jvm.Cond.code ({ cls := "ShortVectors$Basis", name := "turnAway", desc := "([J[JJ)V" } : Jvm.MethodName) prog_2_method_12_code (11 : Nat) (Option.none : Option Jvm.ClassFile.FieldType)) ∈ utbl := u_mem (List.mem_of_getElem? (i := 345) (by decide +kernel)) (by decide +kernel)
theorem wd297 : (Jvm.Cond.methodLinkNest "ShortVectors$Basis" (108 : Nat) ({ cls := "ShortVectors", name := "commonDivisor", desc := "(JJ)J" } : Jvm.MethodName) "ShortVectors") ∈ lw_tbl := List.mem_of_getElem? (i := 346) (by decide +kernel)
theorem wd298 : (Jvm.Cond.static ({ cls := "ShortVectors", name := "commonDivisor", desc := "(JJ)J" } : Jvm.MethodName)) ∈ utbl := u_mem (List.mem_of_getElem? (i := 347) (by decide +kernel)) (by decide +kernel)
theorem wd299 : (Jvm.Cond.code ({ cls := "ShortVectors", name := "commonDivisor", desc := "(JJ)J" } : Jvm.MethodName) prog_1_method_24_code (11 : Nat) (Option.some Jvm.ClassFile.FieldType.long)) ∈ utbl := u_mem (List.mem_of_getElem? (i := 348) (by decide +kernel)) (by decide +kernel)
theorem wd300 : (Jvm.Cond.methodLink "ShortVectors" (154 : Nat) ({ cls := "java/lang/Math", name := "abs", desc := "(J)J" } : Jvm.MethodName)) ∈ utbl := u_mem (List.mem_of_getElem? (i := 349) (by decide +kernel)) (by decide +kernel)
theorem wd301 : (Jvm.Cond.constant "ShortVectors" (160 : Nat) (1000000 : Int32)) ∈ utbl := u_mem (List.mem_of_getElem? (i := 350) (by decide +kernel)) (by decide +kernel)
theorem wd302 : (Jvm.Cond.methodLink "ShortVectors$Basis" (105 : Nat) ({ cls := "java/lang/Math", name := "max", desc := "(JJ)J" } : Jvm.MethodName)) ∈ utbl := u_mem (List.mem_of_getElem? (i := 351) (by decide +kernel)) (by decide +kernel)
theorem wd303 : (Jvm.Cond.static ({ cls := "java/lang/Math", name := "max", desc := "(JJ)J" } : Jvm.MethodName)) ∈ utbl := u_mem (List.mem_of_getElem? (i := 352) (by decide +kernel)) (by decide +kernel)
theorem wd304 : (Jvm.Cond.code ({ cls := "java/lang/Math", name := "max", desc := "(JJ)J" } : Jvm.MethodName) prog_10_method_66_code (4 : Nat) (Option.some Jvm.ClassFile.FieldType.long)) ∈ utbl := u_mem (List.mem_of_getElem? (i := 353) (by decide +kernel)) (by decide +kernel)
theorem wd305 : (Jvm.Cond.methodLink "ShortVectors" (87 : Nat) ({ cls := "ShortVectors$Basis", name := "volumeSquared", desc := "()J" } : Jvm.MethodName)) ∈ utbl := u_mem (List.mem_of_getElem? (i := 354) (by decide +kernel)) (by decide +kernel)
theorem wd306 : (Jvm.Cond.instanceMethod ({ cls := "ShortVectors$Basis", name := "volumeSquared", desc := "()J" } : Jvm.MethodName)) ∈ utbl := u_mem (List.mem_of_getElem? (i := 355) (by decide +kernel)) (by decide +kernel)
theorem wd307 : (Jvm.Cond.selects "ShortVectors$Basis" ({ cls := "ShortVectors$Basis", name := "volumeSquared", desc := "()J" } : Jvm.MethodName) ({ cls := "ShortVectors$Basis", name := "volumeSquared", desc := "()J" } : Jvm.MethodName)) ∈ utbl := u_mem (List.mem_of_getElem? (i := 356) (by decide +kernel)) (by decide +kernel)
theorem wd308 : (Jvm.Cond.code ({ cls := "ShortVectors$Basis", name := "volumeSquared", desc := "()J" } : Jvm.MethodName) prog_2_method_13_code (4 : Nat) (Option.some Jvm.ClassFile.FieldType.long)) ∈ utbl := u_mem (List.mem_of_getElem? (i := 357) (by decide +kernel)) (by decide +kernel)
theorem wd309 : (Jvm.Cond.methodLink "ShortVectors$Basis" (111 : Nat) ({ cls := "ShortVectors$Basis", name := "eliminate", desc := "(IJ)V" } : Jvm.MethodName)) ∈ utbl := u_mem (List.mem_of_getElem? (i := 358) (by decide +kernel)) (by decide +kernel)
theorem wd311 : (Jvm.Cond.instanceMethod ({ cls := "ShortVectors$Basis", name := "eliminate", desc := "(IJ)V" } : Jvm.MethodName)) ∈ utbl := u_mem (List.mem_of_getElem? (i := 360) (by decide +kernel)) (by decide +kernel)
theorem wd312 : (Jvm.Cond.code ({ cls := "ShortVectors$Basis", name := "eliminate", desc := "(IJ)V" } : Jvm.MethodName) prog_2_method_14_code (8 : Nat) (Option.none : Option Jvm.ClassFile.FieldType)) ∈ utbl := u_mem (List.mem_of_getElem? (i := 361) (by decide +kernel)) (by decide +kernel)
theorem wd313 : (Jvm.Cond.methodLink "ShortVectorsLaw" (37 : Nat) ({ cls := "ShortVectors", name := "spare", desc := "(I)Z" } : Jvm.MethodName)) ∈ utbl := u_mem (List.mem_of_getElem? (i := 362) (by decide +kernel)) (by decide +kernel)
theorem wd314 : (Jvm.Cond.instanceMethod ({ cls := "ShortVectors", name := "spare", desc := "(I)Z" } : Jvm.MethodName)) ∈ utbl := u_mem (List.mem_of_getElem? (i := 363) (by decide +kernel)) (by decide +kernel)
theorem wd315 : (Jvm.Cond.selects "ShortVectors" ({ cls := "ShortVectors", name := "spare", desc := "(I)Z" } : Jvm.MethodName) ({ cls := "ShortVectors", name := "spare", desc := "(I)Z" } : Jvm.MethodName)) ∈ utbl := u_mem (List.mem_of_getElem? (i := 364) (by decide +kernel)) (by decide +kernel)
theorem wd316 : (Jvm.Cond.code ({ cls := "ShortVectors", name := "spare", desc := "(I)Z" } : Jvm.MethodName) prog_1_method_7_code (2 : Nat) (Option.some Jvm.ClassFile.FieldType.boolean)) ∈ utbl := u_mem (List.mem_of_getElem? (i := 365) (by decide +kernel)) (by decide +kernel)
theorem wd317 : (Jvm.Cond.methodLink "ShortVectors" (91 : Nat) ({ cls := "ShortVectors$Echelon", name := "holds", desc := "([J)Z" } : Jvm.MethodName)) ∈ utbl := u_mem (List.mem_of_getElem? (i := 366) (by decide +kernel)) (by decide +kernel)
theorem wd318 : (Jvm.Cond.instanceMethod ({ cls := "ShortVectors$Echelon", name := "holds", desc := "([J)Z" } : Jvm.MethodName)) ∈ utbl := u_mem (List.mem_of_getElem? (i := 367) (by decide +kernel)) (by decide +kernel)
theorem wd319 : (Jvm.Cond.selects "ShortVectors$Echelon" ({ cls := "ShortVectors$Echelon", name := "holds", desc := "([J)Z" } : Jvm.MethodName) ({ cls := "ShortVectors$Echelon", name := "holds", desc := "([J)Z" } : Jvm.MethodName)) ∈ utbl := u_mem (List.mem_of_getElem? (i := 368) (by decide +kernel)) (by decide +kernel)
theorem wd320 : (Jvm.Cond.code ({ cls := "ShortVectors$Echelon", name := "holds", desc := "([J)Z" } : Jvm.MethodName) prog_5_method_9_code (2 : Nat) (Option.some Jvm.ClassFile.FieldType.boolean)) ∈ utbl := u_mem (List.mem_of_getElem? (i := 369) (by decide +kernel)) (by decide +kernel)
theorem wd321 : (Jvm.Cond.methodLink "ShortVectors$Echelon" (55 : Nat) ({ cls := "ShortVectors$Echelon", name := "leastMultiplier", desc := "([J)J" } : Jvm.MethodName)) ∈ utbl := u_mem (List.mem_of_getElem? (i := 370) (by decide +kernel)) (by decide +kernel)
theorem wd322 : (Jvm.Cond.instanceMethod ({ cls := "ShortVectors$Echelon", name := "leastMultiplier", desc := "([J)J" } : Jvm.MethodName)) ∈ utbl := u_mem (List.mem_of_getElem? (i := 371) (by decide +kernel)) (by decide +kernel)
theorem wd323 : (Jvm.Cond.selects "ShortVectors$Echelon" ({ cls := "ShortVectors$Echelon", name := "leastMultiplier", desc := "([J)J" } : Jvm.MethodName) ({ cls := "ShortVectors$Echelon", name := "leastMultiplier", desc := "([J)J" } : Jvm.MethodName)) ∈ utbl := u_mem (List.mem_of_getElem? (i := 372) (by decide +kernel)) (by decide +kernel)
theorem wd324 : (Jvm.Cond.code ({ cls := "ShortVectors$Echelon", name := "leastMultiplier", desc := "([J)J" } : Jvm.MethodName) prog_5_method_10_code (9 : Nat) (Option.some Jvm.ClassFile.FieldType.long)) ∈ utbl := u_mem (List.mem_of_getElem? (i := 373) (by decide +kernel)) (by decide +kernel)
theorem wd325 : (Jvm.Cond.methodLinkNest "ShortVectors$Echelon" (59 : Nat) ({ cls := "ShortVectors", name := "commonDivisor", desc := "(JJ)J" } : Jvm.MethodName) "ShortVectors") ∈ lw_tbl := List.mem_of_getElem? (i := 374) (by decide +kernel)
theorem wd326 : (Jvm.Cond.methodLink "ShortVectorsLaw" (42 : Nat) ({ cls := "ShortVectors", name := "has", desc := "(IIII)Z" } : Jvm.MethodName)) ∈ utbl := u_mem (List.mem_of_getElem? (i := 375) (by decide +kernel)) (by decide +kernel)
theorem wd327 : (Jvm.Cond.instanceMethod ({ cls := "ShortVectors", name := "has", desc := "(IIII)Z" } : Jvm.MethodName)) ∈ utbl := u_mem (List.mem_of_getElem? (i := 376) (by decide +kernel)) (by decide +kernel)
theorem wd328 : (Jvm.Cond.selects "ShortVectors" ({ cls := "ShortVectors", name := "has", desc := "(IIII)Z" } : Jvm.MethodName) ({ cls := "ShortVectors", name := "has", desc := "(IIII)Z" } : Jvm.MethodName)) ∈ utbl := u_mem (List.mem_of_getElem? (i := 377) (by decide +kernel)) (by decide +kernel)
theorem wd329 : (Jvm.Cond.code ({ cls := "ShortVectors", name := "has", desc := "(IIII)Z" } : Jvm.MethodName) prog_1_method_8_code (5 : Nat) (Option.some Jvm.ClassFile.FieldType.boolean)) ∈ utbl := u_mem (List.mem_of_getElem? (i := 378) (by decide +kernel)) (by decide +kernel)
theorem wd330 : (Jvm.Cond.methodLink "ShortVectorsLaw" (47 : Nat) ({ cls := "ShortVectors", name := "order", desc := "(IIII)J" } : Jvm.MethodName)) ∈ utbl := u_mem (List.mem_of_getElem? (i := 379) (by decide +kernel)) (by decide +kernel)
theorem wd331 : (Jvm.Cond.instanceMethod ({ cls := "ShortVectors", name := "order", desc := "(IIII)J" } : Jvm.MethodName)) ∈ utbl := u_mem (List.mem_of_getElem? (i := 380) (by decide +kernel)) (by decide +kernel)
theorem wd332 : (Jvm.Cond.selects "ShortVectors" ({ cls := "ShortVectors", name := "order", desc := "(IIII)J" } : Jvm.MethodName) ({ cls := "ShortVectors", name := "order", desc := "(IIII)J" } : Jvm.MethodName)) ∈ utbl := u_mem (List.mem_of_getElem? (i := 381) (by decide +kernel)) (by decide +kernel)
theorem wd333 : (Jvm.Cond.code ({ cls := "ShortVectors", name := "order", desc := "(IIII)J" } : Jvm.MethodName) prog_1_method_9_code (5 : Nat) (Option.some Jvm.ClassFile.FieldType.long)) ∈ utbl := u_mem (List.mem_of_getElem? (i := 382) (by decide +kernel)) (by decide +kernel)
theorem wd334 : (Jvm.Cond.methodLink "ShortVectors" (95 : Nat) ({ cls := "ShortVectors$Echelon", name := "leastMultiplier", desc := "([J)J" } : Jvm.MethodName)) ∈ utbl := u_mem (List.mem_of_getElem? (i := 383) (by decide +kernel)) (by decide +kernel)
theorem wd335 : (Jvm.Cond.constantLong "ShortVectors" (99 : Nat) (-1 : Int64)) ∈ utbl := u_mem (List.mem_of_getElem? (i := 384) (by decide +kernel)) (by decide +kernel)
theorem wd336 : (Jvm.Cond.methodLink "ShortVectorsLaw" (52 : Nat) ({ cls := "ShortVectors", name := "minimum", desc := "(I)I" } : Jvm.MethodName)) ∈ utbl := u_mem (List.mem_of_getElem? (i := 385) (by decide +kernel)) (by decide +kernel)
theorem wd337 : (Jvm.Cond.instanceMethod ({ cls := "ShortVectors", name := "minimum", desc := "(I)I" } : Jvm.MethodName)) ∈ utbl := u_mem (List.mem_of_getElem? (i := 386) (by decide +kernel)) (by decide +kernel)
theorem wd338 : (Jvm.Cond.selects "ShortVectors" ({ cls := "ShortVectors", name := "minimum", desc := "(I)I" } : Jvm.MethodName) ({ cls := "ShortVectors", name := "minimum", desc := "(I)I" } : Jvm.MethodName)) ∈ utbl := u_mem (List.mem_of_getElem? (i := 387) (by decide +kernel)) (by decide +kernel)
theorem wd339 : (Jvm.Cond.code ({ cls := "ShortVectors", name := "minimum", desc := "(I)I" } : Jvm.MethodName) prog_1_method_10_code (2 : Nat) (Option.some Jvm.ClassFile.FieldType.int)) ∈ utbl := u_mem (List.mem_of_getElem? (i := 388) (by decide +kernel)) (by decide +kernel)
theorem wd340 : (Jvm.Cond.methodLink "ShortVectors" (101 : Nat) ({ cls := "ShortVectors$Basis", name := "squareOf", desc := "(I)J" } : Jvm.MethodName)) ∈ utbl := u_mem (List.mem_of_getElem? (i := 389) (by decide +kernel)) (by decide +kernel)
theorem wd341 : (Jvm.Cond.methodLink "ShortVectorsLaw" (57 : Nat) ({ cls := "ShortVectors", name := "count", desc := "(I)I" } : Jvm.MethodName)) ∈ utbl := u_mem (List.mem_of_getElem? (i := 390) (by decide +kernel)) (by decide +kernel)
theorem wd342 : (Jvm.Cond.instanceMethod ({ cls := "ShortVectors", name := "count", desc := "(I)I" } : Jvm.MethodName)) ∈ utbl := u_mem (List.mem_of_getElem? (i := 391) (by decide +kernel)) (by decide +kernel)
theorem wd343 : (Jvm.Cond.selects "ShortVectors" ({ cls := "ShortVectors", name := "count", desc := "(I)I" } : Jvm.MethodName) ({ cls := "ShortVectors", name := "count", desc := "(I)I" } : Jvm.MethodName)) ∈ utbl := u_mem (List.mem_of_getElem? (i := 392) (by decide +kernel)) (by decide +kernel)
theorem wd344 : (Jvm.Cond.code ({ cls := "ShortVectors", name := "count", desc := "(I)I" } : Jvm.MethodName) prog_1_method_11_code (2 : Nat) (Option.some Jvm.ClassFile.FieldType.int)) ∈ utbl := u_mem (List.mem_of_getElem? (i := 393) (by decide +kernel)) (by decide +kernel)
theorem wd345 : (Jvm.Cond.methodLink "ShortVectors" (109 : Nat) ({ cls := "ShortVectors$Tally", name := "fill", desc := "(LShortVectors$Basis;)V" } : Jvm.MethodName)) ∈ utbl := u_mem (List.mem_of_getElem? (i := 394) (by decide +kernel)) (by decide +kernel)
theorem wd346 : (Jvm.Cond.instanceMethod ({ cls := "ShortVectors$Tally", name := "fill", desc := "(LShortVectors$Basis;)V" } : Jvm.MethodName)) ∈ utbl := u_mem (List.mem_of_getElem? (i := 395) (by decide +kernel)) (by decide +kernel)
theorem wd347 : (Jvm.Cond.selects "ShortVectors$Tally" ({ cls := "ShortVectors$Tally", name := "fill", desc := "(LShortVectors$Basis;)V" } : Jvm.MethodName) ({ cls := "ShortVectors$Tally", name := "fill", desc := "(LShortVectors$Basis;)V" } : Jvm.MethodName)) ∈ utbl := u_mem (List.mem_of_getElem? (i := 396) (by decide +kernel)) (by decide +kernel)
theorem wd348 : (Jvm.Cond.code ({ cls := "ShortVectors$Tally", name := "fill", desc := "(LShortVectors$Basis;)V" } : Jvm.MethodName) prog_7_method_2_code (3 : Nat) (Option.none : Option Jvm.ClassFile.FieldType)) ∈ utbl := u_mem (List.mem_of_getElem? (i := 397) (by decide +kernel)) (by decide +kernel)
theorem wd349 : (Jvm.Cond.methodLink "ShortVectors$Tally" (15 : Nat) ({ cls := "java/util/Arrays", name := "fill", desc := "([II)V" } : Jvm.MethodName)) ∈ utbl := u_mem (List.mem_of_getElem? (i := 398) (by decide +kernel)) (by decide +kernel)
theorem wd350 : (Jvm.Cond.static ({ cls := "java/util/Arrays", name := "fill", desc := "([II)V" } : Jvm.MethodName)) ∈ utbl := u_mem (List.mem_of_getElem? (i := 399) (by decide +kernel)) (by decide +kernel)
theorem wd351 : (Jvm.Cond.code ({ cls := "java/util/Arrays", name := "fill", desc := "([II)V" } : Jvm.MethodName) prog_12_method_103_code (4 : Nat) (Option.none : Option Jvm.ClassFile.FieldType)) ∈ utbl := u_mem (List.mem_of_getElem? (i := 400) (by decide +kernel)) (by decide +kernel)
theorem wd352 : (Jvm.Cond.constantLong "ShortVectors$Tally" (21 : Nat) (40 : Int64)) ∈ utbl := u_mem (List.mem_of_getElem? (i := 401) (by decide +kernel)) (by decide +kernel)
theorem wd353 : (Jvm.Cond.methodLink "ShortVectors$Tally" (23 : Nat) ({ cls := "ShortVectors$Tally", name := "setBudget", desc := "(J)V" } : Jvm.MethodName)) ∈ utbl := u_mem (List.mem_of_getElem? (i := 402) (by decide +kernel)) (by decide +kernel)
theorem wd354 : (Jvm.Cond.sameMethod "ShortVectors$Tally" "ShortVectors$Collector" "setBudget" "(J)V") ∈ utbl := u_mem (List.mem_of_getElem? (i := 403) (by decide +kernel)) (by decide +kernel)
theorem wd355 : (Jvm.Cond.declares ({ cls := "ShortVectors$Collector", name := "setBudget", desc := "(J)V" } : Jvm.MethodName)) ∈ lw_tbl := List.mem_of_getElem? (i := 404) (by decide +kernel)
theorem wd356 : (Jvm.Cond.selects "ShortVectors$Tally" ({ cls := "ShortVectors$Tally", name := "setBudget", desc := "(J)V" } : Jvm.MethodName) ({ cls := "ShortVectors$Collector", name := "setBudget", desc := "(J)V" } : Jvm.MethodName)) ∈ utbl := u_mem (List.mem_of_getElem? (i := 405) (by decide +kernel)) (by decide +kernel)
theorem wd357 : (Jvm.Cond.instanceMethod ({ cls := "ShortVectors$Collector", name := "setBudget", desc := "(J)V" } : Jvm.MethodName)) ∈ utbl := u_mem (List.mem_of_getElem? (i := 406) (by decide +kernel)) (by decide +kernel)
theorem wd358 : (Jvm.Cond.code ({ cls := "ShortVectors$Collector", name := "setBudget", desc := "(J)V" } : Jvm.MethodName) prog_4_method_3_code (3 : Nat) (Option.none : Option Jvm.ClassFile.FieldType)) ∈ utbl := u_mem (List.mem_of_getElem? (i := 407) (by decide +kernel)) (by decide +kernel)
theorem wd359 : (Jvm.Cond.methodLink "ShortVectors$Tally" (27 : Nat) ({ cls := "ShortVectors$Basis", name := "search", desc := "(LShortVectors$Collector;)V" } : Jvm.MethodName)) ∈ utbl := u_mem (List.mem_of_getElem? (i := 408) (by decide +kernel)) (by decide +kernel)
theorem wd360 : (Jvm.Cond.instanceMethod ({ cls := "ShortVectors$Basis", name := "search", desc := "(LShortVectors$Collector;)V" } : Jvm.MethodName)) ∈ utbl := u_mem (List.mem_of_getElem? (i := 409) (by decide +kernel)) (by decide +kernel)
theorem wd361 : (Jvm.Cond.selects "ShortVectors$Basis" ({ cls := "ShortVectors$Basis", name := "search", desc := "(LShortVectors$Collector;)V" } : Jvm.MethodName) ({ cls := "ShortVectors$Basis", name := "search", desc := "(LShortVectors$Collector;)V" } : Jvm.MethodName)) ∈ utbl := u_mem (List.mem_of_getElem? (i := 410) (by decide +kernel)) (by decide +kernel)
theorem wd362 : (Jvm.Cond.code ({ cls := "ShortVectors$Basis", name := "search", desc := "(LShortVectors$Collector;)V" } : Jvm.MethodName) prog_2_method_15_code (2 : Nat) (Option.none : Option Jvm.ClassFile.FieldType)) ∈ utbl := u_mem (List.mem_of_getElem? (i := 411) (by decide +kernel)) (by decide +kernel)
theorem wd363 : (Jvm.Cond.methodLink "ShortVectors$Basis" (115 : Nat) ({ cls := "java/util/Arrays", name := "fill", desc := "([JJ)V" } : Jvm.MethodName)) ∈ utbl := u_mem (List.mem_of_getElem? (i := 412) (by decide +kernel)) (by decide +kernel)
theorem wd364 : (Jvm.Cond.methodLink "ShortVectors$Basis" (121 : Nat) ({ cls := "ShortVectors$Collector", name := "goal", desc := "()[J" } : Jvm.MethodName)) ∈ utbl := u_mem (List.mem_of_getElem? (i := 413) (by decide +kernel)) (by decide +kernel)
theorem wd365 : (Jvm.Cond.instanceMethod ({ cls := "ShortVectors$Collector", name := "goal", desc := "()[J" } : Jvm.MethodName)) ∈ utbl := u_mem (List.mem_of_getElem? (i := 414) (by decide +kernel)) (by decide +kernel)
theorem wd366 : (Jvm.Cond.sameMethod "ShortVectors$Collector" "ShortVectors$Collector" "goal" "()[J") ∈ utbl := u_mem (List.mem_of_getElem? (i := 415) (by decide +kernel)) (by decide +kernel)
theorem wd367 : (Jvm.Cond.selects "ShortVectors$Closest" ({ cls := "ShortVectors$Collector", name := "goal", desc := "()[J" } : Jvm.MethodName) ({ cls := "ShortVectors$Collector", name := "goal", desc := "()[J" } : Jvm.MethodName)) ∈ utbl := u_mem (List.mem_of_getElem? (i := 416) (by decide +kernel)) (by decide +kernel)
theorem wd368 : (Jvm.Cond.selects "ShortVectors$FirstVectors" ({ cls := "ShortVectors$Collector", name := "goal", desc := "()[J" } : Jvm.MethodName) ({ cls := "ShortVectors$Collector", name := "goal", desc := "()[J" } : Jvm.MethodName)) ∈ utbl := u_mem (List.mem_of_getElem? (i := 417) (by decide +kernel)) (by decide +kernel)
theorem wd369 : (Jvm.Cond.selects "ShortVectors$Tally" ({ cls := "ShortVectors$Collector", name := "goal", desc := "()[J" } : Jvm.MethodName) ({ cls := "ShortVectors$Collector", name := "goal", desc := "()[J" } : Jvm.MethodName)) ∈ utbl := u_mem (List.mem_of_getElem? (i := 418) (by decide +kernel)) (by decide +kernel)
theorem wd370 : (Jvm.Cond.code ({ cls := "ShortVectors$Collector", name := "goal", desc := "()[J" } : Jvm.MethodName) prog_4_method_2_code (1 : Nat) (Option.some (Jvm.ClassFile.FieldType.array Jvm.ClassFile.FieldType.long))) ∈ utbl := u_mem (List.mem_of_getElem? (i := 419) (by decide +kernel)) (by decide +kernel)
theorem wd371 : (Jvm.Cond.constantLong "ShortVectors$Basis" (127 : Nat) (-1 : Int64)) ∈ utbl := u_mem (List.mem_of_getElem? (i := 420) (by decide +kernel)) (by decide +kernel)
theorem wd372 : (Jvm.Cond.methodLink "ShortVectors$Basis" (129 : Nat) ({ cls := "ShortVectors$Basis", name := "squareOutside", desc := "([J)J" } : Jvm.MethodName)) ∈ utbl := u_mem (List.mem_of_getElem? (i := 421) (by decide +kernel)) (by decide +kernel)
theorem wd374 : (Jvm.Cond.instanceMethod ({ cls := "ShortVectors$Basis", name := "squareOutside", desc := "([J)J" } : Jvm.MethodName)) ∈ utbl := u_mem (List.mem_of_getElem? (i := 423) (by decide +kernel)) (by decide +kernel)
theorem wd375 : (Jvm.Cond.code ({ cls := "ShortVectors$Basis", name := "squareOutside", desc := "([J)J" } : Jvm.MethodName) prog_2_method_16_code (7 : Nat) (Option.some Jvm.ClassFile.FieldType.long)) ∈ utbl := u_mem (List.mem_of_getElem? (i := 424) (by decide +kernel)) (by decide +kernel)
theorem wd376 : (Jvm.Cond.methodLink "ShortVectors$Basis" (137 : Nat) ({ cls := "java/lang/Math", name := "floorDiv", desc := "(JJ)J" } : Jvm.MethodName)) ∈ utbl := u_mem (List.mem_of_getElem? (i := 425) (by decide +kernel)) (by decide +kernel)
theorem wd377 : (Jvm.Cond.methodLink "ShortVectors$Basis" (133 : Nat) ({ cls := "ShortVectors$Basis", name := "descend", desc := "(IJLShortVectors$Collector;)V" } : Jvm.MethodName)) ∈ utbl := u_mem (List.mem_of_getElem? (i := 426) (by decide +kernel)) (by decide +kernel)
theorem wd379 : (Jvm.Cond.instanceMethod ({ cls := "ShortVectors$Basis", name := "descend", desc := "(IJLShortVectors$Collector;)V" } : Jvm.MethodName)) ∈ utbl := u_mem (List.mem_of_getElem? (i := 428) (by decide +kernel)) (by decide +kernel)
theorem wd380 : (Jvm.Cond.code ({ cls := "ShortVectors$Basis", name := "descend", desc := "(IJLShortVectors$Collector;)V" } : Jvm.MethodName) prog_2_method_17_code (8 : Nat) (Option.none : Option Jvm.ClassFile.FieldType)) ∈ utbl := u_mem (List.mem_of_getElem? (i := 429) (by decide +kernel)) (by decide +kernel)
theorem wd381 : (Jvm.Cond.methodLink "ShortVectors$Basis" (140 : Nat) ({ cls := "ShortVectors$Collector", name := "meet", desc := "([JJ)V" } : Jvm.MethodName)) ∈ utbl := u_mem (List.mem_of_getElem? (i := 430) (by decide +kernel)) (by decide +kernel)
theorem wd382 : (Jvm.Cond.declares ({ cls := "ShortVectors$Collector", name := "meet", desc := "([JJ)V" } : Jvm.MethodName)) ∈ lw_tbl := List.mem_of_getElem? (i := 431) (by decide +kernel)
theorem wd383 : (Jvm.Cond.sameMethod "ShortVectors$Collector" "ShortVectors$Collector" "meet" "([JJ)V") ∈ utbl := u_mem (List.mem_of_getElem? (i := 432) (by decide +kernel)) (by decide +kernel)
theorem wd384 : (Jvm.Cond.selects "ShortVectors$Closest" ({ cls := "ShortVectors$Collector", name := "meet", desc := "([JJ)V" } : Jvm.MethodName) ({ cls := "ShortVectors$Closest", name := "meet", desc := "([JJ)V" } : Jvm.MethodName)) ∈ utbl := u_mem (List.mem_of_getElem? (i := 433) (by decide +kernel)) (by decide +kernel)
theorem wd385 : (Jvm.Cond.instanceMethod ({ cls := "ShortVectors$Closest", name := "meet", desc := "([JJ)V" } : Jvm.MethodName)) ∈ utbl := u_mem (List.mem_of_getElem? (i := 434) (by decide +kernel)) (by decide +kernel)
theorem wd386 : (Jvm.Cond.code ({ cls := "ShortVectors$Closest", name := "meet", desc := "([JJ)V" } : Jvm.MethodName) prog_3_method_5_code (4 : Nat) (Option.none : Option Jvm.ClassFile.FieldType)) ∈ utbl := u_mem (List.mem_of_getElem? (i := 435) (by decide +kernel)) (by decide +kernel)
theorem wd387 : (Jvm.Cond.methodLinkNest "ShortVectors$Closest" (53 : Nat) ({ cls := "ShortVectors", name := "comesBefore", desc := "([J[J)Z" } : Jvm.MethodName) "ShortVectors") ∈ lw_tbl := List.mem_of_getElem? (i := 436) (by decide +kernel)
theorem wd388 : (Jvm.Cond.static ({ cls := "ShortVectors", name := "comesBefore", desc := "([J[J)Z" } : Jvm.MethodName)) ∈ utbl := u_mem (List.mem_of_getElem? (i := 437) (by decide +kernel)) (by decide +kernel)
theorem wd389 : (Jvm.Cond.code ({ cls := "ShortVectors", name := "comesBefore", desc := "([J[J)Z" } : Jvm.MethodName) prog_1_method_23_code (3 : Nat) (Option.some Jvm.ClassFile.FieldType.boolean)) ∈ utbl := u_mem (List.mem_of_getElem? (i := 438) (by decide +kernel)) (by decide +kernel)
theorem wd390 : (Jvm.Cond.methodLinkNest "ShortVectors$Closest" (19 : Nat) ({ cls := "ShortVectors", name := "copy", desc := "([J[J)V" } : Jvm.MethodName) "ShortVectors") ∈ lw_tbl := List.mem_of_getElem? (i := 439) (by decide +kernel)
theorem wd391 : (Jvm.Cond.methodLink "ShortVectors$Closest" (43 : Nat) ({ cls := "ShortVectors$Closest", name := "setBudget", desc := "(J)V" } : Jvm.MethodName)) ∈ utbl := u_mem (List.mem_of_getElem? (i := 440) (by decide +kernel)) (by decide +kernel)
theorem wd392 : (Jvm.Cond.sameMethod "ShortVectors$Closest" "ShortVectors$Collector" "setBudget" "(J)V") ∈ utbl := u_mem (List.mem_of_getElem? (i := 441) (by decide +kernel)) (by decide +kernel)
theorem wd393 : (Jvm.Cond.selects "ShortVectors$Closest" ({ cls := "ShortVectors$Closest", name := "setBudget", desc := "(J)V" } : Jvm.MethodName) ({ cls := "ShortVectors$Collector", name := "setBudget", desc := "(J)V" } : Jvm.MethodName)) ∈ utbl := u_mem (List.mem_of_getElem? (i := 442) (by decide +kernel)) (by decide +kernel)
theorem wd394 : (Jvm.Cond.selects "ShortVectors$FirstVectors" ({ cls := "ShortVectors$Collector", name := "meet", desc := "([JJ)V" } : Jvm.MethodName) ({ cls := "ShortVectors$FirstVectors", name := "meet", desc := "([JJ)V" } : Jvm.MethodName)) ∈ utbl := u_mem (List.mem_of_getElem? (i := 443) (by decide +kernel)) (by decide +kernel)
theorem wd395 : (Jvm.Cond.instanceMethod ({ cls := "ShortVectors$FirstVectors", name := "meet", desc := "([JJ)V" } : Jvm.MethodName)) ∈ utbl := u_mem (List.mem_of_getElem? (i := 444) (by decide +kernel)) (by decide +kernel)
theorem wd396 : (Jvm.Cond.code ({ cls := "ShortVectors$FirstVectors", name := "meet", desc := "([JJ)V" } : Jvm.MethodName) prog_6_method_4_code (5 : Nat) (Option.none : Option Jvm.ClassFile.FieldType)) ∈ utbl := u_mem (List.mem_of_getElem? (i := 445) (by decide +kernel)) (by decide +kernel)
theorem wd397 : (Jvm.Cond.methodLink "ShortVectors$FirstVectors" (40 : Nat) ({ cls := "ShortVectors$FirstVectors", name := "wants", desc := "(J)Z" } : Jvm.MethodName)) ∈ utbl := u_mem (List.mem_of_getElem? (i := 446) (by decide +kernel)) (by decide +kernel)
theorem wd398 : (Jvm.Cond.sameMethod "ShortVectors$FirstVectors" "ShortVectors$Collector" "wants" "(J)Z") ∈ utbl := u_mem (List.mem_of_getElem? (i := 447) (by decide +kernel)) (by decide +kernel)
theorem wd399 : (Jvm.Cond.declares ({ cls := "ShortVectors$Collector", name := "wants", desc := "(J)Z" } : Jvm.MethodName)) ∈ lw_tbl := List.mem_of_getElem? (i := 448) (by decide +kernel)
theorem wd400 : (Jvm.Cond.selects "ShortVectors$FirstVectors" ({ cls := "ShortVectors$FirstVectors", name := "wants", desc := "(J)Z" } : Jvm.MethodName) ({ cls := "ShortVectors$Collector", name := "wants", desc := "(J)Z" } : Jvm.MethodName)) ∈ utbl := u_mem (List.mem_of_getElem? (i := 449) (by decide +kernel)) (by decide +kernel)
theorem wd401 : (Jvm.Cond.instanceMethod ({ cls := "ShortVectors$Collector", name := "wants", desc := "(J)Z" } : Jvm.MethodName)) ∈ utbl := u_mem (List.mem_of_getElem? (i := 450) (by decide +kernel)) (by decide +kernel)
theorem wd402 : (Jvm.Cond.code ({ cls := "ShortVectors$Collector", name := "wants", desc := "(J)Z" } : Jvm.MethodName) prog_4_method_4_code (3 : Nat) (Option.some Jvm.ClassFile.FieldType.boolean)) ∈ utbl := u_mem (List.mem_of_getElem? (i := 451) (by decide +kernel)) (by decide +kernel)
theorem wd403 : (Jvm.Cond.methodLink "ShortVectors$FirstVectors" (44 : Nat) ({ cls := "ShortVectors$FirstVectors", name := "precedes", desc := "([JJI)Z" } : Jvm.MethodName)) ∈ utbl := u_mem (List.mem_of_getElem? (i := 452) (by decide +kernel)) (by decide +kernel)
theorem wd405 : (Jvm.Cond.instanceMethod ({ cls := "ShortVectors$FirstVectors", name := "precedes", desc := "([JJI)Z" } : Jvm.MethodName)) ∈ utbl := u_mem (List.mem_of_getElem? (i := 454) (by decide +kernel)) (by decide +kernel)
theorem wd406 : (Jvm.Cond.code ({ cls := "ShortVectors$FirstVectors", name := "precedes", desc := "([JJI)Z" } : Jvm.MethodName) prog_6_method_5_code (5 : Nat) (Option.some Jvm.ClassFile.FieldType.boolean)) ∈ utbl := u_mem (List.mem_of_getElem? (i := 455) (by decide +kernel)) (by decide +kernel)
theorem wd407 : (Jvm.Cond.methodLinkNest "ShortVectors$FirstVectors" (52 : Nat) ({ cls := "ShortVectors", name := "comesBefore", desc := "([J[J)Z" } : Jvm.MethodName) "ShortVectors") ∈ lw_tbl := List.mem_of_getElem? (i := 456) (by decide +kernel)
theorem wd408 : (Jvm.Cond.methodLink "ShortVectors$FirstVectors" (48 : Nat) ({ cls := "ShortVectors$FirstVectors", name := "insert", desc := "([JJI)V" } : Jvm.MethodName)) ∈ utbl := u_mem (List.mem_of_getElem? (i := 457) (by decide +kernel)) (by decide +kernel)
theorem wd410 : (Jvm.Cond.instanceMethod ({ cls := "ShortVectors$FirstVectors", name := "insert", desc := "([JJI)V" } : Jvm.MethodName)) ∈ utbl := u_mem (List.mem_of_getElem? (i := 459) (by decide +kernel)) (by decide +kernel)
theorem wd411 : (Jvm.Cond.code ({ cls := "ShortVectors$FirstVectors", name := "insert", desc := "([JJI)V" } : Jvm.MethodName) prog_6_method_6_code (6 : Nat) (Option.none : Option Jvm.ClassFile.FieldType)) ∈ utbl := u_mem (List.mem_of_getElem? (i := 460) (by decide +kernel)) (by decide +kernel)
theorem wd412 : (Jvm.Cond.methodLink "ShortVectors$FirstVectors" (56 : Nat) ({ cls := "java/lang/Math", name := "min", desc := "(II)I" } : Jvm.MethodName)) ∈ utbl := u_mem (List.mem_of_getElem? (i := 461) (by decide +kernel)) (by decide +kernel)
theorem wd413 : (Jvm.Cond.static ({ cls := "java/lang/Math", name := "min", desc := "(II)I" } : Jvm.MethodName)) ∈ utbl := u_mem (List.mem_of_getElem? (i := 462) (by decide +kernel)) (by decide +kernel)
theorem wd414 : (Jvm.Cond.code ({ cls := "java/lang/Math", name := "min", desc := "(II)I" } : Jvm.MethodName) prog_10_method_69_code (2 : Nat) (Option.some Jvm.ClassFile.FieldType.int)) ∈ utbl := u_mem (List.mem_of_getElem? (i := 463) (by decide +kernel)) (by decide +kernel)
theorem wd415 : (Jvm.Cond.methodLinkNest "ShortVectors$FirstVectors" (62 : Nat) ({ cls := "ShortVectors", name := "copy", desc := "([J[J)V" } : Jvm.MethodName) "ShortVectors") ∈ lw_tbl := List.mem_of_getElem? (i := 464) (by decide +kernel)
theorem wd416 : (Jvm.Cond.methodLink "ShortVectors$FirstVectors" (32 : Nat) ({ cls := "ShortVectors$FirstVectors", name := "setBudget", desc := "(J)V" } : Jvm.MethodName)) ∈ utbl := u_mem (List.mem_of_getElem? (i := 465) (by decide +kernel)) (by decide +kernel)
theorem wd417 : (Jvm.Cond.sameMethod "ShortVectors$FirstVectors" "ShortVectors$Collector" "setBudget" "(J)V") ∈ utbl := u_mem (List.mem_of_getElem? (i := 466) (by decide +kernel)) (by decide +kernel)
theorem wd418 : (Jvm.Cond.selects "ShortVectors$FirstVectors" ({ cls := "ShortVectors$FirstVectors", name := "setBudget", desc := "(J)V" } : Jvm.MethodName) ({ cls := "ShortVectors$Collector", name := "setBudget", desc := "(J)V" } : Jvm.MethodName)) ∈ utbl := u_mem (List.mem_of_getElem? (i := 467) (by decide +kernel)) (by decide +kernel)
theorem wd419 : (Jvm.Cond.selects "ShortVectors$Tally" ({ cls := "ShortVectors$Collector", name := "meet", desc := "([JJ)V" } : Jvm.MethodName) ({ cls := "ShortVectors$Tally", name := "meet", desc := "([JJ)V" } : Jvm.MethodName)) ∈ utbl := u_mem (List.mem_of_getElem? (i := 468) (by decide +kernel)) (by decide +kernel)
theorem wd420 : (Jvm.Cond.instanceMethod ({ cls := "ShortVectors$Tally", name := "meet", desc := "([JJ)V" } : Jvm.MethodName)) ∈ utbl := u_mem (List.mem_of_getElem? (i := 469) (by decide +kernel)) (by decide +kernel)
theorem wd421 : (Jvm.Cond.code ({ cls := "ShortVectors$Tally", name := "meet", desc := "([JJ)V" } : Jvm.MethodName) prog_7_method_4_code (4 : Nat) (Option.none : Option Jvm.ClassFile.FieldType)) ∈ utbl := u_mem (List.mem_of_getElem? (i := 470) (by decide +kernel)) (by decide +kernel)
theorem wd422 : (Jvm.Cond.methodLink "ShortVectors$Tally" (33 : Nat) ({ cls := "ShortVectors$Tally", name := "wants", desc := "(J)Z" } : Jvm.MethodName)) ∈ utbl := u_mem (List.mem_of_getElem? (i := 471) (by decide +kernel)) (by decide +kernel)
theorem wd423 : (Jvm.Cond.sameMethod "ShortVectors$Tally" "ShortVectors$Collector" "wants" "(J)Z") ∈ utbl := u_mem (List.mem_of_getElem? (i := 472) (by decide +kernel)) (by decide +kernel)
theorem wd424 : (Jvm.Cond.selects "ShortVectors$Tally" ({ cls := "ShortVectors$Tally", name := "wants", desc := "(J)Z" } : Jvm.MethodName) ({ cls := "ShortVectors$Collector", name := "wants", desc := "(J)Z" } : Jvm.MethodName)) ∈ utbl := u_mem (List.mem_of_getElem? (i := 473) (by decide +kernel)) (by decide +kernel)
theorem wd425 : (Jvm.Cond.methodLink "ShortVectors$Basis" (143 : Nat) ({ cls := "ShortVectors$Basis", name := "walk", desc := "(IJIJLShortVectors$Collector;)V" } : Jvm.MethodName)) ∈ utbl := u_mem (List.mem_of_getElem? (i := 474) (by decide +kernel)) (by decide +kernel)
theorem wd427 : (Jvm.Cond.instanceMethod ({ cls := "ShortVectors$Basis", name := "walk", desc := "(IJIJLShortVectors$Collector;)V" } : Jvm.MethodName)) ∈ utbl := u_mem (List.mem_of_getElem? (i := 476) (by decide +kernel)) (by decide +kernel)
theorem wd428 : (Jvm.Cond.code ({ cls := "ShortVectors$Basis", name := "walk", desc := "(IJIJLShortVectors$Collector;)V" } : Jvm.MethodName) prog_2_method_18_code (13 : Nat) (Option.none : Option Jvm.ClassFile.FieldType)) ∈ utbl := u_mem (List.mem_of_getElem? (i := 477) (by decide +kernel)) (by decide +kernel)
theorem wd429 : (Jvm.Cond.methodLink "ShortVectors$Basis" (147 : Nat) ({ cls := "ShortVectors$Collector", name := "wants", desc := "(J)Z" } : Jvm.MethodName)) ∈ utbl := u_mem (List.mem_of_getElem? (i := 478) (by decide +kernel)) (by decide +kernel)
theorem wd430 : (Jvm.Cond.methodLink "ShortVectors" (113 : Nat) ({ cls := "ShortVectors$Tally", name := "upTo", desc := "(I)I" } : Jvm.MethodName)) ∈ utbl := u_mem (List.mem_of_getElem? (i := 479) (by decide +kernel)) (by decide +kernel)
theorem wd431 : (Jvm.Cond.instanceMethod ({ cls := "ShortVectors$Tally", name := "upTo", desc := "(I)I" } : Jvm.MethodName)) ∈ utbl := u_mem (List.mem_of_getElem? (i := 480) (by decide +kernel)) (by decide +kernel)
theorem wd432 : (Jvm.Cond.selects "ShortVectors$Tally" ({ cls := "ShortVectors$Tally", name := "upTo", desc := "(I)I" } : Jvm.MethodName) ({ cls := "ShortVectors$Tally", name := "upTo", desc := "(I)I" } : Jvm.MethodName)) ∈ utbl := u_mem (List.mem_of_getElem? (i := 481) (by decide +kernel)) (by decide +kernel)
theorem wd433 : (Jvm.Cond.code ({ cls := "ShortVectors$Tally", name := "upTo", desc := "(I)I" } : Jvm.MethodName) prog_7_method_3_code (2 : Nat) (Option.some Jvm.ClassFile.FieldType.int)) ∈ utbl := u_mem (List.mem_of_getElem? (i := 482) (by decide +kernel)) (by decide +kernel)
theorem wd434 : (Jvm.Cond.methodLink "ShortVectorsLaw" (61 : Nat) ({ cls := "ShortVectors", name := "vector", desc := "(II)I" } : Jvm.MethodName)) ∈ utbl := u_mem (List.mem_of_getElem? (i := 483) (by decide +kernel)) (by decide +kernel)
theorem wd435 : (Jvm.Cond.instanceMethod ({ cls := "ShortVectors", name := "vector", desc := "(II)I" } : Jvm.MethodName)) ∈ utbl := u_mem (List.mem_of_getElem? (i := 484) (by decide +kernel)) (by decide +kernel)
theorem wd436 : (Jvm.Cond.selects "ShortVectors" ({ cls := "ShortVectors", name := "vector", desc := "(II)I" } : Jvm.MethodName) ({ cls := "ShortVectors", name := "vector", desc := "(II)I" } : Jvm.MethodName)) ∈ utbl := u_mem (List.mem_of_getElem? (i := 485) (by decide +kernel)) (by decide +kernel)
theorem wd437 : (Jvm.Cond.code ({ cls := "ShortVectors", name := "vector", desc := "(II)I" } : Jvm.MethodName) prog_1_method_12_code (3 : Nat) (Option.some Jvm.ClassFile.FieldType.int)) ∈ utbl := u_mem (List.mem_of_getElem? (i := 486) (by decide +kernel)) (by decide +kernel)
theorem wd438 : (Jvm.Cond.methodLink "ShortVectors" (117 : Nat) ({ cls := "ShortVectors", name := "isAxis", desc := "(I)Z" } : Jvm.MethodName)) ∈ utbl := u_mem (List.mem_of_getElem? (i := 487) (by decide +kernel)) (by decide +kernel)
theorem wd439 : (Jvm.Cond.static ({ cls := "ShortVectors", name := "isAxis", desc := "(I)Z" } : Jvm.MethodName)) ∈ utbl := u_mem (List.mem_of_getElem? (i := 488) (by decide +kernel)) (by decide +kernel)
theorem wd440 : (Jvm.Cond.code ({ cls := "ShortVectors", name := "isAxis", desc := "(I)Z" } : Jvm.MethodName) prog_1_method_19_code (1 : Nat) (Option.some Jvm.ClassFile.FieldType.boolean)) ∈ utbl := u_mem (List.mem_of_getElem? (i := 489) (by decide +kernel)) (by decide +kernel)
theorem wd441 : (Jvm.Cond.methodLink "ShortVectors" (124 : Nat) ({ cls := "ShortVectors$FirstVectors", name := "fill", desc := "(LShortVectors$Basis;)V" } : Jvm.MethodName)) ∈ utbl := u_mem (List.mem_of_getElem? (i := 490) (by decide +kernel)) (by decide +kernel)
theorem wd442 : (Jvm.Cond.instanceMethod ({ cls := "ShortVectors$FirstVectors", name := "fill", desc := "(LShortVectors$Basis;)V" } : Jvm.MethodName)) ∈ utbl := u_mem (List.mem_of_getElem? (i := 491) (by decide +kernel)) (by decide +kernel)
theorem wd443 : (Jvm.Cond.selects "ShortVectors$FirstVectors" ({ cls := "ShortVectors$FirstVectors", name := "fill", desc := "(LShortVectors$Basis;)V" } : Jvm.MethodName) ({ cls := "ShortVectors$FirstVectors", name := "fill", desc := "(LShortVectors$Basis;)V" } : Jvm.MethodName)) ∈ utbl := u_mem (List.mem_of_getElem? (i := 492) (by decide +kernel)) (by decide +kernel)
theorem wd444 : (Jvm.Cond.code ({ cls := "ShortVectors$FirstVectors", name := "fill", desc := "(LShortVectors$Basis;)V" } : Jvm.MethodName) prog_6_method_2_code (4 : Nat) (Option.none : Option Jvm.ClassFile.FieldType)) ∈ utbl := u_mem (List.mem_of_getElem? (i := 493) (by decide +kernel)) (by decide +kernel)
theorem wd445 : (Jvm.Cond.constantLong "ShortVectors$FirstVectors" (24 : Nat) (20 : Int64)) ∈ utbl := u_mem (List.mem_of_getElem? (i := 494) (by decide +kernel)) (by decide +kernel)
theorem wd446 : (Jvm.Cond.methodLink "ShortVectors$FirstVectors" (26 : Nat) ({ cls := "ShortVectors$Basis", name := "leastSquare", desc := "()J" } : Jvm.MethodName)) ∈ utbl := u_mem (List.mem_of_getElem? (i := 495) (by decide +kernel)) (by decide +kernel)
theorem wd447 : (Jvm.Cond.instanceMethod ({ cls := "ShortVectors$Basis", name := "leastSquare", desc := "()J" } : Jvm.MethodName)) ∈ utbl := u_mem (List.mem_of_getElem? (i := 496) (by decide +kernel)) (by decide +kernel)
theorem wd448 : (Jvm.Cond.selects "ShortVectors$Basis" ({ cls := "ShortVectors$Basis", name := "leastSquare", desc := "()J" } : Jvm.MethodName) ({ cls := "ShortVectors$Basis", name := "leastSquare", desc := "()J" } : Jvm.MethodName)) ∈ utbl := u_mem (List.mem_of_getElem? (i := 497) (by decide +kernel)) (by decide +kernel)
theorem wd449 : (Jvm.Cond.code ({ cls := "ShortVectors$Basis", name := "leastSquare", desc := "()J" } : Jvm.MethodName) prog_2_method_4_code (1 : Nat) (Option.some Jvm.ClassFile.FieldType.long)) ∈ utbl := u_mem (List.mem_of_getElem? (i := 498) (by decide +kernel)) (by decide +kernel)
theorem wd450 : (Jvm.Cond.methodLink "ShortVectors$FirstVectors" (36 : Nat) ({ cls := "ShortVectors$Basis", name := "search", desc := "(LShortVectors$Collector;)V" } : Jvm.MethodName)) ∈ utbl := u_mem (List.mem_of_getElem? (i := 499) (by decide +kernel)) (by decide +kernel)
theorem wd451 : (Jvm.Cond.methodLink "ShortVectors" (125 : Nat) ({ cls := "ShortVectors$FirstVectors", name := "coordinate", desc := "(II)I" } : Jvm.MethodName)) ∈ utbl := u_mem (List.mem_of_getElem? (i := 500) (by decide +kernel)) (by decide +kernel)
theorem wd452 : (Jvm.Cond.instanceMethod ({ cls := "ShortVectors$FirstVectors", name := "coordinate", desc := "(II)I" } : Jvm.MethodName)) ∈ utbl := u_mem (List.mem_of_getElem? (i := 501) (by decide +kernel)) (by decide +kernel)
theorem wd453 : (Jvm.Cond.selects "ShortVectors$FirstVectors" ({ cls := "ShortVectors$FirstVectors", name := "coordinate", desc := "(II)I" } : Jvm.MethodName) ({ cls := "ShortVectors$FirstVectors", name := "coordinate", desc := "(II)I" } : Jvm.MethodName)) ∈ utbl := u_mem (List.mem_of_getElem? (i := 502) (by decide +kernel)) (by decide +kernel)
theorem wd454 : (Jvm.Cond.code ({ cls := "ShortVectors$FirstVectors", name := "coordinate", desc := "(II)I" } : Jvm.MethodName) prog_6_method_3_code (3 : Nat) (Option.some Jvm.ClassFile.FieldType.int)) ∈ utbl := u_mem (List.mem_of_getElem? (i := 503) (by decide +kernel)) (by decide +kernel)
theorem wd455 : (Jvm.Cond.methodLink "ShortVectorsLaw" (66 : Nat) ({ cls := "ShortVectors", name := "distance", desc := "(IIII)I" } : Jvm.MethodName)) ∈ utbl := u_mem (List.mem_of_getElem? (i := 504) (by decide +kernel)) (by decide +kernel)
theorem wd456 : (Jvm.Cond.instanceMethod ({ cls := "ShortVectors", name := "distance", desc := "(IIII)I" } : Jvm.MethodName)) ∈ utbl := u_mem (List.mem_of_getElem? (i := 505) (by decide +kernel)) (by decide +kernel)
theorem wd457 : (Jvm.Cond.selects "ShortVectors" ({ cls := "ShortVectors", name := "distance", desc := "(IIII)I" } : Jvm.MethodName) ({ cls := "ShortVectors", name := "distance", desc := "(IIII)I" } : Jvm.MethodName)) ∈ utbl := u_mem (List.mem_of_getElem? (i := 506) (by decide +kernel)) (by decide +kernel)
theorem wd458 : (Jvm.Cond.code ({ cls := "ShortVectors", name := "distance", desc := "(IIII)I" } : Jvm.MethodName) prog_1_method_13_code (5 : Nat) (Option.some Jvm.ClassFile.FieldType.int)) ∈ utbl := u_mem (List.mem_of_getElem? (i := 507) (by decide +kernel)) (by decide +kernel)
theorem wd459 : (Jvm.Cond.methodLink "ShortVectors" (129 : Nat) ({ cls := "ShortVectors$Closest", name := "approach", desc := "(LShortVectors$Basis;[J)V" } : Jvm.MethodName)) ∈ utbl := u_mem (List.mem_of_getElem? (i := 508) (by decide +kernel)) (by decide +kernel)
theorem wd460 : (Jvm.Cond.instanceMethod ({ cls := "ShortVectors$Closest", name := "approach", desc := "(LShortVectors$Basis;[J)V" } : Jvm.MethodName)) ∈ utbl := u_mem (List.mem_of_getElem? (i := 509) (by decide +kernel)) (by decide +kernel)
theorem wd461 : (Jvm.Cond.selects "ShortVectors$Closest" ({ cls := "ShortVectors$Closest", name := "approach", desc := "(LShortVectors$Basis;[J)V" } : Jvm.MethodName) ({ cls := "ShortVectors$Closest", name := "approach", desc := "(LShortVectors$Basis;[J)V" } : Jvm.MethodName)) ∈ utbl := u_mem (List.mem_of_getElem? (i := 510) (by decide +kernel)) (by decide +kernel)
theorem wd462 : (Jvm.Cond.code ({ cls := "ShortVectors$Closest", name := "approach", desc := "(LShortVectors$Basis;[J)V" } : Jvm.MethodName) prog_3_method_2_code (3 : Nat) (Option.none : Option Jvm.ClassFile.FieldType)) ∈ utbl := u_mem (List.mem_of_getElem? (i := 511) (by decide +kernel)) (by decide +kernel)
theorem wd463 : (Jvm.Cond.methodLink "ShortVectors$Closest" (15 : Nat) ({ cls := "ShortVectors$Closest", name := "goal", desc := "()[J" } : Jvm.MethodName)) ∈ utbl := u_mem (List.mem_of_getElem? (i := 512) (by decide +kernel)) (by decide +kernel)
theorem wd464 : (Jvm.Cond.sameMethod "ShortVectors$Closest" "ShortVectors$Collector" "goal" "()[J") ∈ utbl := u_mem (List.mem_of_getElem? (i := 513) (by decide +kernel)) (by decide +kernel)
theorem wd465 : (Jvm.Cond.declares ({ cls := "ShortVectors$Collector", name := "goal", desc := "()[J" } : Jvm.MethodName)) ∈ lw_tbl := List.mem_of_getElem? (i := 514) (by decide +kernel)
theorem wd466 : (Jvm.Cond.selects "ShortVectors$Closest" ({ cls := "ShortVectors$Closest", name := "goal", desc := "()[J" } : Jvm.MethodName) ({ cls := "ShortVectors$Collector", name := "goal", desc := "()[J" } : Jvm.MethodName)) ∈ utbl := u_mem (List.mem_of_getElem? (i := 515) (by decide +kernel)) (by decide +kernel)
theorem wd467 : (Jvm.Cond.methodLink "ShortVectors$Closest" (23 : Nat) ({ cls := "java/util/Arrays", name := "fill", desc := "([JJ)V" } : Jvm.MethodName)) ∈ utbl := u_mem (List.mem_of_getElem? (i := 516) (by decide +kernel)) (by decide +kernel)
theorem wd468 : (Jvm.Cond.constantLong "ShortVectors$Closest" (29 : Nat) (-1 : Int64)) ∈ utbl := u_mem (List.mem_of_getElem? (i := 517) (by decide +kernel)) (by decide +kernel)
theorem wd469 : (Jvm.Cond.methodLinkNest "ShortVectors$Closest" (31 : Nat) ({ cls := "ShortVectors", name := "addMultiple", desc := "([J[JJ)V" } : Jvm.MethodName) "ShortVectors") ∈ lw_tbl := List.mem_of_getElem? (i := 518) (by decide +kernel)
theorem wd470 : (Jvm.Cond.methodLinkNest "ShortVectors$Closest" (35 : Nat) ({ cls := "ShortVectors", name := "product", desc := "([J[J)J" } : Jvm.MethodName) "ShortVectors") ∈ lw_tbl := List.mem_of_getElem? (i := 519) (by decide +kernel)
theorem wd471 : (Jvm.Cond.methodLink "ShortVectors$Closest" (47 : Nat) ({ cls := "ShortVectors$Basis", name := "search", desc := "(LShortVectors$Collector;)V" } : Jvm.MethodName)) ∈ utbl := u_mem (List.mem_of_getElem? (i := 520) (by decide +kernel)) (by decide +kernel)
theorem wd472 : (Jvm.Cond.methodLink "ShortVectors" (133 : Nat) ({ cls := "ShortVectors$Closest", name := "leastSquare", desc := "()I" } : Jvm.MethodName)) ∈ utbl := u_mem (List.mem_of_getElem? (i := 521) (by decide +kernel)) (by decide +kernel)
theorem wd473 : (Jvm.Cond.instanceMethod ({ cls := "ShortVectors$Closest", name := "leastSquare", desc := "()I" } : Jvm.MethodName)) ∈ utbl := u_mem (List.mem_of_getElem? (i := 522) (by decide +kernel)) (by decide +kernel)
theorem wd474 : (Jvm.Cond.selects "ShortVectors$Closest" ({ cls := "ShortVectors$Closest", name := "leastSquare", desc := "()I" } : Jvm.MethodName) ({ cls := "ShortVectors$Closest", name := "leastSquare", desc := "()I" } : Jvm.MethodName)) ∈ utbl := u_mem (List.mem_of_getElem? (i := 523) (by decide +kernel)) (by decide +kernel)
theorem wd475 : (Jvm.Cond.code ({ cls := "ShortVectors$Closest", name := "leastSquare", desc := "()I" } : Jvm.MethodName) prog_3_method_3_code (1 : Nat) (Option.some Jvm.ClassFile.FieldType.int)) ∈ utbl := u_mem (List.mem_of_getElem? (i := 524) (by decide +kernel)) (by decide +kernel)
theorem wd476 : (Jvm.Cond.methodLink "ShortVectorsLaw" (70 : Nat) ({ cls := "ShortVectors", name := "nearest", desc := "(IIIII)I" } : Jvm.MethodName)) ∈ utbl := u_mem (List.mem_of_getElem? (i := 525) (by decide +kernel)) (by decide +kernel)
theorem wd477 : (Jvm.Cond.instanceMethod ({ cls := "ShortVectors", name := "nearest", desc := "(IIIII)I" } : Jvm.MethodName)) ∈ utbl := u_mem (List.mem_of_getElem? (i := 526) (by decide +kernel)) (by decide +kernel)
theorem wd478 : (Jvm.Cond.selects "ShortVectors" ({ cls := "ShortVectors", name := "nearest", desc := "(IIIII)I" } : Jvm.MethodName) ({ cls := "ShortVectors", name := "nearest", desc := "(IIIII)I" } : Jvm.MethodName)) ∈ utbl := u_mem (List.mem_of_getElem? (i := 527) (by decide +kernel)) (by decide +kernel)
theorem wd479 : (Jvm.Cond.code ({ cls := "ShortVectors", name := "nearest", desc := "(IIIII)I" } : Jvm.MethodName) prog_1_method_14_code (6 : Nat) (Option.some Jvm.ClassFile.FieldType.int)) ∈ utbl := u_mem (List.mem_of_getElem? (i := 528) (by decide +kernel)) (by decide +kernel)
theorem wd480 : (Jvm.Cond.methodLink "ShortVectors" (136 : Nat) ({ cls := "ShortVectors$Closest", name := "coordinate", desc := "(I)I" } : Jvm.MethodName)) ∈ utbl := u_mem (List.mem_of_getElem? (i := 529) (by decide +kernel)) (by decide +kernel)
theorem wd481 : (Jvm.Cond.instanceMethod ({ cls := "ShortVectors$Closest", name := "coordinate", desc := "(I)I" } : Jvm.MethodName)) ∈ utbl := u_mem (List.mem_of_getElem? (i := 530) (by decide +kernel)) (by decide +kernel)
theorem wd482 : (Jvm.Cond.selects "ShortVectors$Closest" ({ cls := "ShortVectors$Closest", name := "coordinate", desc := "(I)I" } : Jvm.MethodName) ({ cls := "ShortVectors$Closest", name := "coordinate", desc := "(I)I" } : Jvm.MethodName)) ∈ utbl := u_mem (List.mem_of_getElem? (i := 531) (by decide +kernel)) (by decide +kernel)
theorem wd483 : (Jvm.Cond.code ({ cls := "ShortVectors$Closest", name := "coordinate", desc := "(I)I" } : Jvm.MethodName) prog_3_method_4_code (2 : Nat) (Option.some Jvm.ClassFile.FieldType.int)) ∈ utbl := u_mem (List.mem_of_getElem? (i := 532) (by decide +kernel)) (by decide +kernel)
theorem wd484 : (Jvm.Cond.classLink "ShortVectorsLaw" (10 : Nat) "ShortVectorsModel") ∈ utbl := u_mem (List.mem_of_getElem? (i := 533) (by decide +kernel)) (by decide +kernel)
theorem wd485 : (Jvm.Cond.instantiable "ShortVectorsModel" (27 : Nat)) ∈ utbl := u_mem (List.mem_of_getElem? (i := 534) (by decide +kernel)) (by decide +kernel)
theorem wd486 : (Jvm.Cond.methodLink "ShortVectorsLaw" (12 : Nat) ({ cls := "ShortVectorsModel", name := "<init>", desc := "()V" } : Jvm.MethodName)) ∈ utbl := u_mem (List.mem_of_getElem? (i := 535) (by decide +kernel)) (by decide +kernel)
theorem wd487 : (Jvm.Cond.instanceMethod ({ cls := "ShortVectorsModel", name := "<init>", desc := "()V" } : Jvm.MethodName)) ∈ utbl := u_mem (List.mem_of_getElem? (i := 536) (by decide +kernel)) (by decide +kernel)
theorem wd488 : (Jvm.Cond.code ({ cls := "ShortVectorsModel", name := "<init>", desc := "()V" } : Jvm.MethodName) prog_9_method_1_code (1 : Nat) (Option.none : Option Jvm.ClassFile.FieldType)) ∈ utbl := u_mem (List.mem_of_getElem? (i := 537) (by decide +kernel)) (by decide +kernel)
theorem wd489 : (Jvm.Cond.methodLink "ShortVectorsModel" (1 : Nat) ({ cls := "java/lang/Object", name := "<init>", desc := "()V" } : Jvm.MethodName)) ∈ utbl := u_mem (List.mem_of_getElem? (i := 538) (by decide +kernel)) (by decide +kernel)
theorem wd490 : (Jvm.Cond.fieldLink "ShortVectorsModel" (67 : Nat) "ShortVectorsModel" "many" "I") ∈ utbl := u_mem (List.mem_of_getElem? (i := 539) (by decide +kernel)) (by decide +kernel)
theorem wd491 : (Jvm.Cond.fieldLink "ShortVectorsModel" (7 : Nat) "ShortVectorsModel" "generator" "[I") ∈ utbl := u_mem (List.mem_of_getElem? (i := 540) (by decide +kernel)) (by decide +kernel)
theorem wd492 : (Jvm.Cond.fieldLink "ShortVectorsModel" (53 : Nat) "ShortVectorsModel" "known" "Z") ∈ utbl := u_mem (List.mem_of_getElem? (i := 541) (by decide +kernel)) (by decide +kernel)
theorem wd493 : (Jvm.Cond.fieldLink "ShortVectorsModel" (98 : Nat) "ShortVectorsModel" "without" "I") ∈ utbl := u_mem (List.mem_of_getElem? (i := 542) (by decide +kernel)) (by decide +kernel)
theorem wd494 : (Jvm.Cond.fieldLink "ShortVectorsModel" (74 : Nat) "ShortVectorsModel" "rows" "I") ∈ utbl := u_mem (List.mem_of_getElem? (i := 543) (by decide +kernel)) (by decide +kernel)
theorem wd495 : (Jvm.Cond.fieldLink "ShortVectorsModel" (13 : Nat) "ShortVectorsModel" "row" "[J") ∈ utbl := u_mem (List.mem_of_getElem? (i := 544) (by decide +kernel)) (by decide +kernel)
theorem wd496 : (Jvm.Cond.fieldLink "ShortVectorsModel" (17 : Nat) "ShortVectorsModel" "pivot" "[I") ∈ utbl := u_mem (List.mem_of_getElem? (i := 545) (by decide +kernel)) (by decide +kernel)
theorem wd497 : (Jvm.Cond.fieldLink "ShortVectorsModel" (20 : Nat) "ShortVectorsModel" "fresh" "[J") ∈ utbl := u_mem (List.mem_of_getElem? (i := 546) (by decide +kernel)) (by decide +kernel)
theorem wd498 : (Jvm.Cond.fieldLink "ShortVectorsModel" (23 : Nat) "ShortVectorsModel" "multiple" "[J") ∈ utbl := u_mem (List.mem_of_getElem? (i := 547) (by decide +kernel)) (by decide +kernel)
theorem wd499 : (Jvm.Cond.fieldLink "ShortVectorsModel" (26 : Nat) "ShortVectorsModel" "last" "[J") ∈ utbl := u_mem (List.mem_of_getElem? (i := 548) (by decide +kernel)) (by decide +kernel)
theorem wd500 : (Jvm.Cond.fieldLink "ShortVectorsModel" (29 : Nat) "ShortVectorsModel" "made" "[J") ∈ utbl := u_mem (List.mem_of_getElem? (i := 549) (by decide +kernel)) (by decide +kernel)
theorem wd501 : (Jvm.Cond.fieldLink "ShortVectorsModel" (32 : Nat) "ShortVectorsModel" "settled" "[J") ∈ utbl := u_mem (List.mem_of_getElem? (i := 550) (by decide +kernel)) (by decide +kernel)
theorem wd502 : (Jvm.Cond.fieldLink "ShortVectorsModel" (35 : Nat) "ShortVectorsModel" "point" "[J") ∈ utbl := u_mem (List.mem_of_getElem? (i := 551) (by decide +kernel)) (by decide +kernel)
theorem wd503 : (Jvm.Cond.fieldLink "ShortVectorsModel" (132 : Nat) "ShortVectorsModel" "limit" "J") ∈ utbl := u_mem (List.mem_of_getElem? (i := 552) (by decide +kernel)) (by decide +kernel)
theorem wd504 : (Jvm.Cond.fieldLink "ShortVectorsModel" (146 : Nat) "ShortVectorsModel" "mode" "I") ∈ utbl := u_mem (List.mem_of_getElem? (i := 553) (by decide +kernel)) (by decide +kernel)
theorem wd505 : (Jvm.Cond.fieldLink "ShortVectorsModel" (169 : Nat) "ShortVectorsModel" "counted" "I") ∈ utbl := u_mem (List.mem_of_getElem? (i := 554) (by decide +kernel)) (by decide +kernel)
theorem wd506 : (Jvm.Cond.fieldLink "ShortVectorsModel" (57 : Nat) "ShortVectorsModel" "listed" "Z") ∈ utbl := u_mem (List.mem_of_getElem? (i := 555) (by decide +kernel)) (by decide +kernel)
theorem wd507 : (Jvm.Cond.fieldLink "ShortVectorsModel" (187 : Nat) "ShortVectorsModel" "held" "I") ∈ utbl := u_mem (List.mem_of_getElem? (i := 556) (by decide +kernel)) (by decide +kernel)
theorem wd508 : (Jvm.Cond.fieldLink "ShortVectorsModel" (38 : Nat) "ShortVectorsModel" "first" "[J") ∈ utbl := u_mem (List.mem_of_getElem? (i := 557) (by decide +kernel)) (by decide +kernel)
theorem wd509 : (Jvm.Cond.fieldLink "ShortVectorsModel" (41 : Nat) "ShortVectorsModel" "squares" "[J") ∈ utbl := u_mem (List.mem_of_getElem? (i := 558) (by decide +kernel)) (by decide +kernel)
theorem wd510 : (Jvm.Cond.fieldLink "ShortVectorsModel" (152 : Nat) "ShortVectorsModel" "wanted" "I") ∈ utbl := u_mem (List.mem_of_getElem? (i := 559) (by decide +kernel)) (by decide +kernel)
theorem wd511 : (Jvm.Cond.fieldLink "ShortVectorsModel" (149 : Nat) "ShortVectorsModel" "spanned" "I") ∈ utbl := u_mem (List.mem_of_getElem? (i := 560) (by decide +kernel)) (by decide +kernel)
theorem wd512 : (Jvm.Cond.fieldLink "ShortVectorsModel" (44 : Nat) "ShortVectorsModel" "span" "[J") ∈ utbl := u_mem (List.mem_of_getElem? (i := 561) (by decide +kernel)) (by decide +kernel)
theorem wd513 : (Jvm.Cond.fieldLink "ShortVectorsModel" (47 : Nat) "ShortVectorsModel" "minima" "[I") ∈ utbl := u_mem (List.mem_of_getElem? (i := 562) (by decide +kernel)) (by decide +kernel)
theorem wd514 : (Jvm.Cond.fieldLink "ShortVectorsModel" (60 : Nat) "ShortVectorsModel" "measured" "Z") ∈ utbl := u_mem (List.mem_of_getElem? (i := 563) (by decide +kernel)) (by decide +kernel)
theorem wd515 : (Jvm.Cond.fieldLink "ShortVectorsModel" (50 : Nat) "ShortVectorsModel" "found" "[J") ∈ utbl := u_mem (List.mem_of_getElem? (i := 564) (by decide +kernel)) (by decide +kernel)
theorem wd516 : (Jvm.Cond.fieldLink "ShortVectorsModel" (210 : Nat) "ShortVectorsModel" "any" "Z") ∈ utbl := u_mem (List.mem_of_getElem? (i := 565) (by decide +kernel)) (by decide +kernel)
theorem wd517 : (Jvm.Cond.lays "ShortVectorsModel" "ShortVectorsModel" "many" "I") ∈ utbl := u_mem (List.mem_of_getElem? (i := 566) (by decide +kernel)) (by decide +kernel)
theorem wd519 : (Jvm.Cond.laysFinal "ShortVectorsModel" "ShortVectorsModel" "generator" "[I") ∈ utbl := u_mem (List.mem_of_getElem? (i := 568) (by decide +kernel)) (by decide +kernel)
theorem wd521 : (Jvm.Cond.lays "ShortVectorsModel" "ShortVectorsModel" "known" "Z") ∈ utbl := u_mem (List.mem_of_getElem? (i := 570) (by decide +kernel)) (by decide +kernel)
theorem wd523 : (Jvm.Cond.lays "ShortVectorsModel" "ShortVectorsModel" "without" "I") ∈ utbl := u_mem (List.mem_of_getElem? (i := 572) (by decide +kernel)) (by decide +kernel)
theorem wd525 : (Jvm.Cond.lays "ShortVectorsModel" "ShortVectorsModel" "rows" "I") ∈ utbl := u_mem (List.mem_of_getElem? (i := 574) (by decide +kernel)) (by decide +kernel)
theorem wd527 : (Jvm.Cond.laysFinal "ShortVectorsModel" "ShortVectorsModel" "row" "[J") ∈ utbl := u_mem (List.mem_of_getElem? (i := 576) (by decide +kernel)) (by decide +kernel)
theorem wd529 : (Jvm.Cond.laysFinal "ShortVectorsModel" "ShortVectorsModel" "pivot" "[I") ∈ utbl := u_mem (List.mem_of_getElem? (i := 578) (by decide +kernel)) (by decide +kernel)
theorem wd531 : (Jvm.Cond.laysFinal "ShortVectorsModel" "ShortVectorsModel" "fresh" "[J") ∈ utbl := u_mem (List.mem_of_getElem? (i := 580) (by decide +kernel)) (by decide +kernel)
theorem wd533 : (Jvm.Cond.laysFinal "ShortVectorsModel" "ShortVectorsModel" "multiple" "[J") ∈ utbl := u_mem (List.mem_of_getElem? (i := 582) (by decide +kernel)) (by decide +kernel)
theorem wd535 : (Jvm.Cond.laysFinal "ShortVectorsModel" "ShortVectorsModel" "last" "[J") ∈ utbl := u_mem (List.mem_of_getElem? (i := 584) (by decide +kernel)) (by decide +kernel)
theorem wd537 : (Jvm.Cond.laysFinal "ShortVectorsModel" "ShortVectorsModel" "made" "[J") ∈ utbl := u_mem (List.mem_of_getElem? (i := 586) (by decide +kernel)) (by decide +kernel)
theorem wd539 : (Jvm.Cond.laysFinal "ShortVectorsModel" "ShortVectorsModel" "settled" "[J") ∈ utbl := u_mem (List.mem_of_getElem? (i := 588) (by decide +kernel)) (by decide +kernel)
theorem wd541 : (Jvm.Cond.laysFinal "ShortVectorsModel" "ShortVectorsModel" "point" "[J") ∈ utbl := u_mem (List.mem_of_getElem? (i := 590) (by decide +kernel)) (by decide +kernel)
theorem wd543 : (Jvm.Cond.lays "ShortVectorsModel" "ShortVectorsModel" "limit" "J") ∈ utbl := u_mem (List.mem_of_getElem? (i := 592) (by decide +kernel)) (by decide +kernel)
theorem wd545 : (Jvm.Cond.lays "ShortVectorsModel" "ShortVectorsModel" "mode" "I") ∈ utbl := u_mem (List.mem_of_getElem? (i := 594) (by decide +kernel)) (by decide +kernel)
theorem wd547 : (Jvm.Cond.lays "ShortVectorsModel" "ShortVectorsModel" "counted" "I") ∈ utbl := u_mem (List.mem_of_getElem? (i := 596) (by decide +kernel)) (by decide +kernel)
theorem wd549 : (Jvm.Cond.lays "ShortVectorsModel" "ShortVectorsModel" "listed" "Z") ∈ utbl := u_mem (List.mem_of_getElem? (i := 598) (by decide +kernel)) (by decide +kernel)
theorem wd551 : (Jvm.Cond.lays "ShortVectorsModel" "ShortVectorsModel" "held" "I") ∈ utbl := u_mem (List.mem_of_getElem? (i := 600) (by decide +kernel)) (by decide +kernel)
theorem wd553 : (Jvm.Cond.laysFinal "ShortVectorsModel" "ShortVectorsModel" "first" "[J") ∈ utbl := u_mem (List.mem_of_getElem? (i := 602) (by decide +kernel)) (by decide +kernel)
theorem wd555 : (Jvm.Cond.laysFinal "ShortVectorsModel" "ShortVectorsModel" "squares" "[J") ∈ utbl := u_mem (List.mem_of_getElem? (i := 604) (by decide +kernel)) (by decide +kernel)
theorem wd557 : (Jvm.Cond.lays "ShortVectorsModel" "ShortVectorsModel" "wanted" "I") ∈ utbl := u_mem (List.mem_of_getElem? (i := 606) (by decide +kernel)) (by decide +kernel)
theorem wd559 : (Jvm.Cond.lays "ShortVectorsModel" "ShortVectorsModel" "spanned" "I") ∈ utbl := u_mem (List.mem_of_getElem? (i := 608) (by decide +kernel)) (by decide +kernel)
theorem wd561 : (Jvm.Cond.laysFinal "ShortVectorsModel" "ShortVectorsModel" "span" "[J") ∈ utbl := u_mem (List.mem_of_getElem? (i := 610) (by decide +kernel)) (by decide +kernel)
theorem wd563 : (Jvm.Cond.laysFinal "ShortVectorsModel" "ShortVectorsModel" "minima" "[I") ∈ utbl := u_mem (List.mem_of_getElem? (i := 612) (by decide +kernel)) (by decide +kernel)
theorem wd565 : (Jvm.Cond.lays "ShortVectorsModel" "ShortVectorsModel" "measured" "Z") ∈ utbl := u_mem (List.mem_of_getElem? (i := 614) (by decide +kernel)) (by decide +kernel)
theorem wd567 : (Jvm.Cond.laysFinal "ShortVectorsModel" "ShortVectorsModel" "found" "[J") ∈ utbl := u_mem (List.mem_of_getElem? (i := 616) (by decide +kernel)) (by decide +kernel)
theorem wd569 : (Jvm.Cond.lays "ShortVectorsModel" "ShortVectorsModel" "any" "Z") ∈ utbl := u_mem (List.mem_of_getElem? (i := 618) (by decide +kernel)) (by decide +kernel)
theorem wd572 : (Jvm.Cond.methodLink "ShortVectorsLaw" (17 : Nat) ({ cls := "ShortVectorsModel", name := "add", desc := "(IIII)I" } : Jvm.MethodName)) ∈ utbl := u_mem (List.mem_of_getElem? (i := 621) (by decide +kernel)) (by decide +kernel)
theorem wd573 : (Jvm.Cond.instanceMethod ({ cls := "ShortVectorsModel", name := "add", desc := "(IIII)I" } : Jvm.MethodName)) ∈ utbl := u_mem (List.mem_of_getElem? (i := 622) (by decide +kernel)) (by decide +kernel)
theorem wd574 : (Jvm.Cond.selects "ShortVectorsModel" ({ cls := "ShortVectorsModel", name := "add", desc := "(IIII)I" } : Jvm.MethodName) ({ cls := "ShortVectorsModel", name := "add", desc := "(IIII)I" } : Jvm.MethodName)) ∈ utbl := u_mem (List.mem_of_getElem? (i := 623) (by decide +kernel)) (by decide +kernel)
theorem wd575 : (Jvm.Cond.code ({ cls := "ShortVectorsModel", name := "add", desc := "(IIII)I" } : Jvm.MethodName) prog_9_method_4_code (5 : Nat) (Option.some Jvm.ClassFile.FieldType.int)) ∈ utbl := u_mem (List.mem_of_getElem? (i := 624) (by decide +kernel)) (by decide +kernel)
theorem wd576 : (Jvm.Cond.methodLink "ShortVectorsModel" (63 : Nat) ({ cls := "ShortVectorsModel", name := "within", desc := "(IIIII)Z" } : Jvm.MethodName)) ∈ utbl := u_mem (List.mem_of_getElem? (i := 625) (by decide +kernel)) (by decide +kernel)
theorem wd577 : (Jvm.Cond.static ({ cls := "ShortVectorsModel", name := "within", desc := "(IIIII)Z" } : Jvm.MethodName)) ∈ utbl := u_mem (List.mem_of_getElem? (i := 626) (by decide +kernel)) (by decide +kernel)
theorem wd578 : (Jvm.Cond.code ({ cls := "ShortVectorsModel", name := "within", desc := "(IIIII)Z" } : Jvm.MethodName) prog_9_method_2_code (5 : Nat) (Option.some Jvm.ClassFile.FieldType.boolean)) ∈ utbl := u_mem (List.mem_of_getElem? (i := 627) (by decide +kernel)) (by decide +kernel)
theorem wd579 : (Jvm.Cond.methodLink "ShortVectorsModel" (71 : Nat) ({ cls := "ShortVectorsModel", name := "changed", desc := "()V" } : Jvm.MethodName)) ∈ utbl := u_mem (List.mem_of_getElem? (i := 628) (by decide +kernel)) (by decide +kernel)
theorem wd581 : (Jvm.Cond.instanceMethod ({ cls := "ShortVectorsModel", name := "changed", desc := "()V" } : Jvm.MethodName)) ∈ utbl := u_mem (List.mem_of_getElem? (i := 630) (by decide +kernel)) (by decide +kernel)
theorem wd582 : (Jvm.Cond.code ({ cls := "ShortVectorsModel", name := "changed", desc := "()V" } : Jvm.MethodName) prog_9_method_3_code (1 : Nat) (Option.none : Option Jvm.ClassFile.FieldType)) ∈ utbl := u_mem (List.mem_of_getElem? (i := 631) (by decide +kernel)) (by decide +kernel)
theorem wd583 : (Jvm.Cond.methodLink "ShortVectorsLaw" (22 : Nat) ({ cls := "ShortVectorsModel", name := "drop", desc := "()Z" } : Jvm.MethodName)) ∈ utbl := u_mem (List.mem_of_getElem? (i := 632) (by decide +kernel)) (by decide +kernel)
theorem wd584 : (Jvm.Cond.instanceMethod ({ cls := "ShortVectorsModel", name := "drop", desc := "()Z" } : Jvm.MethodName)) ∈ utbl := u_mem (List.mem_of_getElem? (i := 633) (by decide +kernel)) (by decide +kernel)
theorem wd585 : (Jvm.Cond.selects "ShortVectorsModel" ({ cls := "ShortVectorsModel", name := "drop", desc := "()Z" } : Jvm.MethodName) ({ cls := "ShortVectorsModel", name := "drop", desc := "()Z" } : Jvm.MethodName)) ∈ utbl := u_mem (List.mem_of_getElem? (i := 634) (by decide +kernel)) (by decide +kernel)
theorem wd586 : (Jvm.Cond.code ({ cls := "ShortVectorsModel", name := "drop", desc := "()Z" } : Jvm.MethodName) prog_9_method_5_code (1 : Nat) (Option.some Jvm.ClassFile.FieldType.boolean)) ∈ utbl := u_mem (List.mem_of_getElem? (i := 635) (by decide +kernel)) (by decide +kernel)
theorem wd587 : (Jvm.Cond.methodLink "ShortVectorsLaw" (27 : Nat) ({ cls := "ShortVectorsModel", name := "generators", desc := "()I" } : Jvm.MethodName)) ∈ utbl := u_mem (List.mem_of_getElem? (i := 636) (by decide +kernel)) (by decide +kernel)
theorem wd588 : (Jvm.Cond.instanceMethod ({ cls := "ShortVectorsModel", name := "generators", desc := "()I" } : Jvm.MethodName)) ∈ utbl := u_mem (List.mem_of_getElem? (i := 637) (by decide +kernel)) (by decide +kernel)
theorem wd589 : (Jvm.Cond.selects "ShortVectorsModel" ({ cls := "ShortVectorsModel", name := "generators", desc := "()I" } : Jvm.MethodName) ({ cls := "ShortVectorsModel", name := "generators", desc := "()I" } : Jvm.MethodName)) ∈ utbl := u_mem (List.mem_of_getElem? (i := 638) (by decide +kernel)) (by decide +kernel)
theorem wd590 : (Jvm.Cond.code ({ cls := "ShortVectorsModel", name := "generators", desc := "()I" } : Jvm.MethodName) prog_9_method_6_code (1 : Nat) (Option.some Jvm.ClassFile.FieldType.int)) ∈ utbl := u_mem (List.mem_of_getElem? (i := 639) (by decide +kernel)) (by decide +kernel)
theorem wd591 : (Jvm.Cond.methodLink "ShortVectorsLaw" (31 : Nat) ({ cls := "ShortVectorsModel", name := "rank", desc := "()I" } : Jvm.MethodName)) ∈ utbl := u_mem (List.mem_of_getElem? (i := 640) (by decide +kernel)) (by decide +kernel)
theorem wd592 : (Jvm.Cond.instanceMethod ({ cls := "ShortVectorsModel", name := "rank", desc := "()I" } : Jvm.MethodName)) ∈ utbl := u_mem (List.mem_of_getElem? (i := 641) (by decide +kernel)) (by decide +kernel)
theorem wd593 : (Jvm.Cond.selects "ShortVectorsModel" ({ cls := "ShortVectorsModel", name := "rank", desc := "()I" } : Jvm.MethodName) ({ cls := "ShortVectorsModel", name := "rank", desc := "()I" } : Jvm.MethodName)) ∈ utbl := u_mem (List.mem_of_getElem? (i := 642) (by decide +kernel)) (by decide +kernel)
theorem wd594 : (Jvm.Cond.code ({ cls := "ShortVectorsModel", name := "rank", desc := "()I" } : Jvm.MethodName) prog_9_method_18_code (1 : Nat) (Option.some Jvm.ClassFile.FieldType.int)) ∈ utbl := u_mem (List.mem_of_getElem? (i := 643) (by decide +kernel)) (by decide +kernel)
theorem wd595 : (Jvm.Cond.methodLink "ShortVectorsModel" (107 : Nat) ({ cls := "ShortVectorsModel", name := "look", desc := "(I)V" } : Jvm.MethodName)) ∈ utbl := u_mem (List.mem_of_getElem? (i := 644) (by decide +kernel)) (by decide +kernel)
theorem wd597 : (Jvm.Cond.instanceMethod ({ cls := "ShortVectorsModel", name := "look", desc := "(I)V" } : Jvm.MethodName)) ∈ utbl := u_mem (List.mem_of_getElem? (i := 646) (by decide +kernel)) (by decide +kernel)
theorem wd598 : (Jvm.Cond.code ({ cls := "ShortVectorsModel", name := "look", desc := "(I)V" } : Jvm.MethodName) prog_9_method_14_code (4 : Nat) (Option.none : Option Jvm.ClassFile.FieldType)) ∈ utbl := u_mem (List.mem_of_getElem? (i := 647) (by decide +kernel)) (by decide +kernel)
theorem wd599 : (Jvm.Cond.methodLink "ShortVectorsModel" (101 : Nat) ({ cls := "ShortVectorsModel", name := "enter", desc := "()V" } : Jvm.MethodName)) ∈ utbl := u_mem (List.mem_of_getElem? (i := 648) (by decide +kernel)) (by decide +kernel)
theorem wd601 : (Jvm.Cond.instanceMethod ({ cls := "ShortVectorsModel", name := "enter", desc := "()V" } : Jvm.MethodName)) ∈ utbl := u_mem (List.mem_of_getElem? (i := 650) (by decide +kernel)) (by decide +kernel)
theorem wd602 : (Jvm.Cond.code ({ cls := "ShortVectorsModel", name := "enter", desc := "()V" } : Jvm.MethodName) prog_9_method_13_code (3 : Nat) (Option.none : Option Jvm.ClassFile.FieldType)) ∈ utbl := u_mem (List.mem_of_getElem? (i := 651) (by decide +kernel)) (by decide +kernel)
theorem wd603 : (Jvm.Cond.methodLink "ShortVectorsModel" (77 : Nat) ({ cls := "ShortVectorsModel", name := "rowAt", desc := "(I)I" } : Jvm.MethodName)) ∈ utbl := u_mem (List.mem_of_getElem? (i := 652) (by decide +kernel)) (by decide +kernel)
theorem wd605 : (Jvm.Cond.instanceMethod ({ cls := "ShortVectorsModel", name := "rowAt", desc := "(I)I" } : Jvm.MethodName)) ∈ utbl := u_mem (List.mem_of_getElem? (i := 654) (by decide +kernel)) (by decide +kernel)
theorem wd606 : (Jvm.Cond.code ({ cls := "ShortVectorsModel", name := "rowAt", desc := "(I)I" } : Jvm.MethodName) prog_9_method_8_code (4 : Nat) (Option.some Jvm.ClassFile.FieldType.int)) ∈ utbl := u_mem (List.mem_of_getElem? (i := 655) (by decide +kernel)) (by decide +kernel)
theorem wd607 : (Jvm.Cond.methodLink "ShortVectorsModel" (89 : Nat) ({ cls := "ShortVectorsModel", name := "tidy", desc := "(I)V" } : Jvm.MethodName)) ∈ utbl := u_mem (List.mem_of_getElem? (i := 656) (by decide +kernel)) (by decide +kernel)
theorem wd609 : (Jvm.Cond.instanceMethod ({ cls := "ShortVectorsModel", name := "tidy", desc := "(I)V" } : Jvm.MethodName)) ∈ utbl := u_mem (List.mem_of_getElem? (i := 658) (by decide +kernel)) (by decide +kernel)
theorem wd610 : (Jvm.Cond.code ({ cls := "ShortVectorsModel", name := "tidy", desc := "(I)V" } : Jvm.MethodName) prog_9_method_9_code (7 : Nat) (Option.none : Option Jvm.ClassFile.FieldType)) ∈ utbl := u_mem (List.mem_of_getElem? (i := 659) (by decide +kernel)) (by decide +kernel)
theorem wd611 : (Jvm.Cond.methodLink "ShortVectorsModel" (81 : Nat) ({ cls := "ShortVectorsModel", name := "under", desc := "(JJ)J" } : Jvm.MethodName)) ∈ utbl := u_mem (List.mem_of_getElem? (i := 660) (by decide +kernel)) (by decide +kernel)
theorem wd612 : (Jvm.Cond.static ({ cls := "ShortVectorsModel", name := "under", desc := "(JJ)J" } : Jvm.MethodName)) ∈ utbl := u_mem (List.mem_of_getElem? (i := 661) (by decide +kernel)) (by decide +kernel)
theorem wd613 : (Jvm.Cond.code ({ cls := "ShortVectorsModel", name := "under", desc := "(JJ)J" } : Jvm.MethodName) prog_9_method_7_code (6 : Nat) (Option.some Jvm.ClassFile.FieldType.long)) ∈ utbl := u_mem (List.mem_of_getElem? (i := 662) (by decide +kernel)) (by decide +kernel)
theorem wd614 : (Jvm.Cond.methodLink "ShortVectorsModel" (92 : Nat) ({ cls := "ShortVectorsModel", name := "insert", desc := "(I)V" } : Jvm.MethodName)) ∈ utbl := u_mem (List.mem_of_getElem? (i := 663) (by decide +kernel)) (by decide +kernel)
theorem wd616 : (Jvm.Cond.instanceMethod ({ cls := "ShortVectorsModel", name := "insert", desc := "(I)V" } : Jvm.MethodName)) ∈ utbl := u_mem (List.mem_of_getElem? (i := 665) (by decide +kernel)) (by decide +kernel)
theorem wd617 : (Jvm.Cond.code ({ cls := "ShortVectorsModel", name := "insert", desc := "(I)V" } : Jvm.MethodName) prog_9_method_12_code (4 : Nat) (Option.none : Option Jvm.ClassFile.FieldType)) ∈ utbl := u_mem (List.mem_of_getElem? (i := 666) (by decide +kernel)) (by decide +kernel)
theorem wd618 : (Jvm.Cond.methodLink "ShortVectorsModel" (95 : Nat) ({ cls := "ShortVectorsModel", name := "divide", desc := "(I)V" } : Jvm.MethodName)) ∈ utbl := u_mem (List.mem_of_getElem? (i := 667) (by decide +kernel)) (by decide +kernel)
theorem wd620 : (Jvm.Cond.instanceMethod ({ cls := "ShortVectorsModel", name := "divide", desc := "(I)V" } : Jvm.MethodName)) ∈ utbl := u_mem (List.mem_of_getElem? (i := 669) (by decide +kernel)) (by decide +kernel)
theorem wd621 : (Jvm.Cond.code ({ cls := "ShortVectorsModel", name := "divide", desc := "(I)V" } : Jvm.MethodName) prog_9_method_11_code (6 : Nat) (Option.none : Option Jvm.ClassFile.FieldType)) ∈ utbl := u_mem (List.mem_of_getElem? (i := 670) (by decide +kernel)) (by decide +kernel)
theorem wd622 : (Jvm.Cond.methodLink "ShortVectorsModel" (85 : Nat) ({ cls := "ShortVectorsModel", name := "swap", desc := "(I)V" } : Jvm.MethodName)) ∈ utbl := u_mem (List.mem_of_getElem? (i := 671) (by decide +kernel)) (by decide +kernel)
theorem wd624 : (Jvm.Cond.instanceMethod ({ cls := "ShortVectorsModel", name := "swap", desc := "(I)V" } : Jvm.MethodName)) ∈ utbl := u_mem (List.mem_of_getElem? (i := 673) (by decide +kernel)) (by decide +kernel)
theorem wd625 : (Jvm.Cond.code ({ cls := "ShortVectorsModel", name := "swap", desc := "(I)V" } : Jvm.MethodName) prog_9_method_10_code (5 : Nat) (Option.none : Option Jvm.ClassFile.FieldType)) ∈ utbl := u_mem (List.mem_of_getElem? (i := 674) (by decide +kernel)) (by decide +kernel)
theorem wd626 : (Jvm.Cond.methodLink "ShortVectorsLaw" (36 : Nat) ({ cls := "ShortVectorsModel", name := "volume", desc := "()J" } : Jvm.MethodName)) ∈ utbl := u_mem (List.mem_of_getElem? (i := 675) (by decide +kernel)) (by decide +kernel)
theorem wd627 : (Jvm.Cond.instanceMethod ({ cls := "ShortVectorsModel", name := "volume", desc := "()J" } : Jvm.MethodName)) ∈ utbl := u_mem (List.mem_of_getElem? (i := 676) (by decide +kernel)) (by decide +kernel)
theorem wd628 : (Jvm.Cond.selects "ShortVectorsModel" ({ cls := "ShortVectorsModel", name := "volume", desc := "()J" } : Jvm.MethodName) ({ cls := "ShortVectorsModel", name := "volume", desc := "()J" } : Jvm.MethodName)) ∈ utbl := u_mem (List.mem_of_getElem? (i := 677) (by decide +kernel)) (by decide +kernel)
theorem wd629 : (Jvm.Cond.code ({ cls := "ShortVectorsModel", name := "volume", desc := "()J" } : Jvm.MethodName) prog_9_method_21_code (6 : Nat) (Option.some Jvm.ClassFile.FieldType.long)) ∈ utbl := u_mem (List.mem_of_getElem? (i := 678) (by decide +kernel)) (by decide +kernel)
theorem wd630 : (Jvm.Cond.methodLink "ShortVectorsModel" (110 : Nat) ({ cls := "ShortVectorsModel", name := "two", desc := "(IIII)J" } : Jvm.MethodName)) ∈ utbl := u_mem (List.mem_of_getElem? (i := 679) (by decide +kernel)) (by decide +kernel)
theorem wd632 : (Jvm.Cond.instanceMethod ({ cls := "ShortVectorsModel", name := "two", desc := "(IIII)J" } : Jvm.MethodName)) ∈ utbl := u_mem (List.mem_of_getElem? (i := 681) (by decide +kernel)) (by decide +kernel)
theorem wd633 : (Jvm.Cond.code ({ cls := "ShortVectorsModel", name := "two", desc := "(IIII)J" } : Jvm.MethodName) prog_9_method_19_code (5 : Nat) (Option.some Jvm.ClassFile.FieldType.long)) ∈ utbl := u_mem (List.mem_of_getElem? (i := 682) (by decide +kernel)) (by decide +kernel)
theorem wd634 : (Jvm.Cond.methodLink "ShortVectorsModel" (114 : Nat) ({ cls := "ShortVectorsModel", name := "three", desc := "(III)J" } : Jvm.MethodName)) ∈ utbl := u_mem (List.mem_of_getElem? (i := 683) (by decide +kernel)) (by decide +kernel)
theorem wd636 : (Jvm.Cond.instanceMethod ({ cls := "ShortVectorsModel", name := "three", desc := "(III)J" } : Jvm.MethodName)) ∈ utbl := u_mem (List.mem_of_getElem? (i := 685) (by decide +kernel)) (by decide +kernel)
theorem wd637 : (Jvm.Cond.code ({ cls := "ShortVectorsModel", name := "three", desc := "(III)J" } : Jvm.MethodName) prog_9_method_20_code (4 : Nat) (Option.some Jvm.ClassFile.FieldType.long)) ∈ utbl := u_mem (List.mem_of_getElem? (i := 686) (by decide +kernel)) (by decide +kernel)
theorem wd638 : (Jvm.Cond.methodLink "ShortVectorsLaw" (41 : Nat) ({ cls := "ShortVectorsModel", name := "spare", desc := "(I)Z" } : Jvm.MethodName)) ∈ utbl := u_mem (List.mem_of_getElem? (i := 687) (by decide +kernel)) (by decide +kernel)
theorem wd639 : (Jvm.Cond.instanceMethod ({ cls := "ShortVectorsModel", name := "spare", desc := "(I)Z" } : Jvm.MethodName)) ∈ utbl := u_mem (List.mem_of_getElem? (i := 688) (by decide +kernel)) (by decide +kernel)
theorem wd640 : (Jvm.Cond.selects "ShortVectorsModel" ({ cls := "ShortVectorsModel", name := "spare", desc := "(I)Z" } : Jvm.MethodName) ({ cls := "ShortVectorsModel", name := "spare", desc := "(I)Z" } : Jvm.MethodName)) ∈ utbl := u_mem (List.mem_of_getElem? (i := 689) (by decide +kernel)) (by decide +kernel)
theorem wd641 : (Jvm.Cond.code ({ cls := "ShortVectorsModel", name := "spare", desc := "(I)Z" } : Jvm.MethodName) prog_9_method_22_code (2 : Nat) (Option.some Jvm.ClassFile.FieldType.boolean)) ∈ utbl := u_mem (List.mem_of_getElem? (i := 690) (by decide +kernel)) (by decide +kernel)
theorem wd642 : (Jvm.Cond.methodLink "ShortVectorsModel" (118 : Nat) ({ cls := "ShortVectorsModel", name := "set", desc := "(IIII)V" } : Jvm.MethodName)) ∈ utbl := u_mem (List.mem_of_getElem? (i := 691) (by decide +kernel)) (by decide +kernel)
theorem wd644 : (Jvm.Cond.instanceMethod ({ cls := "ShortVectorsModel", name := "set", desc := "(IIII)V" } : Jvm.MethodName)) ∈ utbl := u_mem (List.mem_of_getElem? (i := 693) (by decide +kernel)) (by decide +kernel)
theorem wd645 : (Jvm.Cond.code ({ cls := "ShortVectorsModel", name := "set", desc := "(IIII)V" } : Jvm.MethodName) prog_9_method_17_code (5 : Nat) (Option.none : Option Jvm.ClassFile.FieldType)) ∈ utbl := u_mem (List.mem_of_getElem? (i := 694) (by decide +kernel)) (by decide +kernel)
theorem wd646 : (Jvm.Cond.methodLink "ShortVectorsModel" (122 : Nat) ({ cls := "ShortVectorsModel", name := "times", desc := "()J" } : Jvm.MethodName)) ∈ utbl := u_mem (List.mem_of_getElem? (i := 695) (by decide +kernel)) (by decide +kernel)
theorem wd648 : (Jvm.Cond.instanceMethod ({ cls := "ShortVectorsModel", name := "times", desc := "()J" } : Jvm.MethodName)) ∈ utbl := u_mem (List.mem_of_getElem? (i := 697) (by decide +kernel)) (by decide +kernel)
theorem wd649 : (Jvm.Cond.code ({ cls := "ShortVectorsModel", name := "times", desc := "()J" } : Jvm.MethodName) prog_9_method_15_code (12 : Nat) (Option.some Jvm.ClassFile.FieldType.long)) ∈ utbl := u_mem (List.mem_of_getElem? (i := 698) (by decide +kernel)) (by decide +kernel)
theorem wd650 : (Jvm.Cond.methodLink "ShortVectorsModel" (104 : Nat) ({ cls := "ShortVectorsModel", name := "common", desc := "(JJ)J" } : Jvm.MethodName)) ∈ utbl := u_mem (List.mem_of_getElem? (i := 699) (by decide +kernel)) (by decide +kernel)
theorem wd651 : (Jvm.Cond.static ({ cls := "ShortVectorsModel", name := "common", desc := "(JJ)J" } : Jvm.MethodName)) ∈ utbl := u_mem (List.mem_of_getElem? (i := 700) (by decide +kernel)) (by decide +kernel)
theorem wd652 : (Jvm.Cond.code ({ cls := "ShortVectorsModel", name := "common", desc := "(JJ)J" } : Jvm.MethodName) prog_9_method_16_code (10 : Nat) (Option.some Jvm.ClassFile.FieldType.long)) ∈ utbl := u_mem (List.mem_of_getElem? (i := 701) (by decide +kernel)) (by decide +kernel)
theorem wd653 : (Jvm.Cond.methodLink "ShortVectorsLaw" (46 : Nat) ({ cls := "ShortVectorsModel", name := "has", desc := "(IIII)Z" } : Jvm.MethodName)) ∈ utbl := u_mem (List.mem_of_getElem? (i := 702) (by decide +kernel)) (by decide +kernel)
theorem wd654 : (Jvm.Cond.instanceMethod ({ cls := "ShortVectorsModel", name := "has", desc := "(IIII)Z" } : Jvm.MethodName)) ∈ utbl := u_mem (List.mem_of_getElem? (i := 703) (by decide +kernel)) (by decide +kernel)
theorem wd655 : (Jvm.Cond.selects "ShortVectorsModel" ({ cls := "ShortVectorsModel", name := "has", desc := "(IIII)Z" } : Jvm.MethodName) ({ cls := "ShortVectorsModel", name := "has", desc := "(IIII)Z" } : Jvm.MethodName)) ∈ utbl := u_mem (List.mem_of_getElem? (i := 704) (by decide +kernel)) (by decide +kernel)
theorem wd656 : (Jvm.Cond.code ({ cls := "ShortVectorsModel", name := "has", desc := "(IIII)Z" } : Jvm.MethodName) prog_9_method_23_code (5 : Nat) (Option.some Jvm.ClassFile.FieldType.boolean)) ∈ utbl := u_mem (List.mem_of_getElem? (i := 705) (by decide +kernel)) (by decide +kernel)
theorem wd657 : (Jvm.Cond.methodLink "ShortVectorsLaw" (51 : Nat) ({ cls := "ShortVectorsModel", name := "order", desc := "(IIII)J" } : Jvm.MethodName)) ∈ utbl := u_mem (List.mem_of_getElem? (i := 706) (by decide +kernel)) (by decide +kernel)
theorem wd658 : (Jvm.Cond.instanceMethod ({ cls := "ShortVectorsModel", name := "order", desc := "(IIII)J" } : Jvm.MethodName)) ∈ utbl := u_mem (List.mem_of_getElem? (i := 707) (by decide +kernel)) (by decide +kernel)
theorem wd659 : (Jvm.Cond.selects "ShortVectorsModel" ({ cls := "ShortVectorsModel", name := "order", desc := "(IIII)J" } : Jvm.MethodName) ({ cls := "ShortVectorsModel", name := "order", desc := "(IIII)J" } : Jvm.MethodName)) ∈ utbl := u_mem (List.mem_of_getElem? (i := 708) (by decide +kernel)) (by decide +kernel)
theorem wd660 : (Jvm.Cond.code ({ cls := "ShortVectorsModel", name := "order", desc := "(IIII)J" } : Jvm.MethodName) prog_9_method_24_code (5 : Nat) (Option.some Jvm.ClassFile.FieldType.long)) ∈ utbl := u_mem (List.mem_of_getElem? (i := 709) (by decide +kernel)) (by decide +kernel)
theorem wd661 : (Jvm.Cond.constantLong "ShortVectorsModel" (126 : Nat) (-1 : Int64)) ∈ utbl := u_mem (List.mem_of_getElem? (i := 710) (by decide +kernel)) (by decide +kernel)
theorem wd662 : (Jvm.Cond.methodLink "ShortVectorsLaw" (60 : Nat) ({ cls := "ShortVectorsModel", name := "count", desc := "(I)I" } : Jvm.MethodName)) ∈ utbl := u_mem (List.mem_of_getElem? (i := 711) (by decide +kernel)) (by decide +kernel)
theorem wd663 : (Jvm.Cond.instanceMethod ({ cls := "ShortVectorsModel", name := "count", desc := "(I)I" } : Jvm.MethodName)) ∈ utbl := u_mem (List.mem_of_getElem? (i := 712) (by decide +kernel)) (by decide +kernel)
theorem wd664 : (Jvm.Cond.selects "ShortVectorsModel" ({ cls := "ShortVectorsModel", name := "count", desc := "(I)I" } : Jvm.MethodName) ({ cls := "ShortVectorsModel", name := "count", desc := "(I)I" } : Jvm.MethodName)) ∈ utbl := u_mem (List.mem_of_getElem? (i := 713) (by decide +kernel)) (by decide +kernel)
theorem wd665 : (Jvm.Cond.code ({ cls := "ShortVectorsModel", name := "count", desc := "(I)I" } : Jvm.MethodName) prog_9_method_34_code (2 : Nat) (Option.some Jvm.ClassFile.FieldType.int)) ∈ utbl := u_mem (List.mem_of_getElem? (i := 714) (by decide +kernel)) (by decide +kernel)
theorem wd666 : (Jvm.Cond.methodLink "ShortVectorsModel" (181 : Nat) ({ cls := "ShortVectorsModel", name := "origin", desc := "()V" } : Jvm.MethodName)) ∈ utbl := u_mem (List.mem_of_getElem? (i := 715) (by decide +kernel)) (by decide +kernel)
theorem wd668 : (Jvm.Cond.instanceMethod ({ cls := "ShortVectorsModel", name := "origin", desc := "()V" } : Jvm.MethodName)) ∈ utbl := u_mem (List.mem_of_getElem? (i := 717) (by decide +kernel)) (by decide +kernel)
theorem wd669 : (Jvm.Cond.code ({ cls := "ShortVectorsModel", name := "origin", desc := "()V" } : Jvm.MethodName) prog_9_method_33_code (2 : Nat) (Option.none : Option Jvm.ClassFile.FieldType)) ∈ utbl := u_mem (List.mem_of_getElem? (i := 718) (by decide +kernel)) (by decide +kernel)
theorem wd670 : (Jvm.Cond.methodLink "ShortVectorsModel" (184 : Nat) ({ cls := "ShortVectorsModel", name := "walk", desc := "(IJ)V" } : Jvm.MethodName)) ∈ utbl := u_mem (List.mem_of_getElem? (i := 719) (by decide +kernel)) (by decide +kernel)
theorem wd672 : (Jvm.Cond.instanceMethod ({ cls := "ShortVectorsModel", name := "walk", desc := "(IJ)V" } : Jvm.MethodName)) ∈ utbl := u_mem (List.mem_of_getElem? (i := 721) (by decide +kernel)) (by decide +kernel)
theorem wd673 : (Jvm.Cond.code ({ cls := "ShortVectorsModel", name := "walk", desc := "(IJ)V" } : Jvm.MethodName) prog_9_method_31_code (5 : Nat) (Option.none : Option Jvm.ClassFile.FieldType)) ∈ utbl := u_mem (List.mem_of_getElem? (i := 722) (by decide +kernel)) (by decide +kernel)
theorem wd674 : (Jvm.Cond.methodLink "ShortVectorsModel" (140 : Nat) ({ cls := "ShortVectorsModel", name := "open", desc := "(I)I" } : Jvm.MethodName)) ∈ utbl := u_mem (List.mem_of_getElem? (i := 723) (by decide +kernel)) (by decide +kernel)
theorem wd676 : (Jvm.Cond.instanceMethod ({ cls := "ShortVectorsModel", name := "open", desc := "(I)I" } : Jvm.MethodName)) ∈ utbl := u_mem (List.mem_of_getElem? (i := 725) (by decide +kernel)) (by decide +kernel)
theorem wd677 : (Jvm.Cond.code ({ cls := "ShortVectorsModel", name := "open", desc := "(I)I" } : Jvm.MethodName) prog_9_method_27_code (2 : Nat) (Option.some Jvm.ClassFile.FieldType.int)) ∈ utbl := u_mem (List.mem_of_getElem? (i := 726) (by decide +kernel)) (by decide +kernel)
theorem wd678 : (Jvm.Cond.methodLink "ShortVectorsModel" (155 : Nat) ({ cls := "ShortVectorsModel", name := "visit", desc := "(IJ)V" } : Jvm.MethodName)) ∈ utbl := u_mem (List.mem_of_getElem? (i := 727) (by decide +kernel)) (by decide +kernel)
theorem wd680 : (Jvm.Cond.instanceMethod ({ cls := "ShortVectorsModel", name := "visit", desc := "(IJ)V" } : Jvm.MethodName)) ∈ utbl := u_mem (List.mem_of_getElem? (i := 729) (by decide +kernel)) (by decide +kernel)
theorem wd681 : (Jvm.Cond.code ({ cls := "ShortVectorsModel", name := "visit", desc := "(IJ)V" } : Jvm.MethodName) prog_9_method_32_code (4 : Nat) (Option.none : Option Jvm.ClassFile.FieldType)) ∈ utbl := u_mem (List.mem_of_getElem? (i := 730) (by decide +kernel)) (by decide +kernel)
theorem wd682 : (Jvm.Cond.methodLink "ShortVectorsModel" (172 : Nat) ({ cls := "ShortVectorsModel", name := "sortIn", desc := "(IJ)V" } : Jvm.MethodName)) ∈ utbl := u_mem (List.mem_of_getElem? (i := 731) (by decide +kernel)) (by decide +kernel)
theorem wd684 : (Jvm.Cond.instanceMethod ({ cls := "ShortVectorsModel", name := "sortIn", desc := "(IJ)V" } : Jvm.MethodName)) ∈ utbl := u_mem (List.mem_of_getElem? (i := 733) (by decide +kernel)) (by decide +kernel)
theorem wd685 : (Jvm.Cond.code ({ cls := "ShortVectorsModel", name := "sortIn", desc := "(IJ)V" } : Jvm.MethodName) prog_9_method_36_code (6 : Nat) (Option.none : Option Jvm.ClassFile.FieldType)) ∈ utbl := u_mem (List.mem_of_getElem? (i := 734) (by decide +kernel)) (by decide +kernel)
theorem wd686 : (Jvm.Cond.methodLink "ShortVectorsModel" (190 : Nat) ({ cls := "ShortVectorsModel", name := "before", desc := "(IJI)Z" } : Jvm.MethodName)) ∈ utbl := u_mem (List.mem_of_getElem? (i := 735) (by decide +kernel)) (by decide +kernel)
theorem wd688 : (Jvm.Cond.instanceMethod ({ cls := "ShortVectorsModel", name := "before", desc := "(IJI)Z" } : Jvm.MethodName)) ∈ utbl := u_mem (List.mem_of_getElem? (i := 737) (by decide +kernel)) (by decide +kernel)
theorem wd689 : (Jvm.Cond.code ({ cls := "ShortVectorsModel", name := "before", desc := "(IJI)Z" } : Jvm.MethodName) prog_9_method_35_code (6 : Nat) (Option.some Jvm.ClassFile.FieldType.boolean)) ∈ utbl := u_mem (List.mem_of_getElem? (i := 738) (by decide +kernel)) (by decide +kernel)
theorem wd690 : (Jvm.Cond.methodLink "ShortVectorsModel" (175 : Nat) ({ cls := "ShortVectorsModel", name := "extend", desc := "(I)V" } : Jvm.MethodName)) ∈ utbl := u_mem (List.mem_of_getElem? (i := 739) (by decide +kernel)) (by decide +kernel)
theorem wd692 : (Jvm.Cond.instanceMethod ({ cls := "ShortVectorsModel", name := "extend", desc := "(I)V" } : Jvm.MethodName)) ∈ utbl := u_mem (List.mem_of_getElem? (i := 741) (by decide +kernel)) (by decide +kernel)
theorem wd693 : (Jvm.Cond.code ({ cls := "ShortVectorsModel", name := "extend", desc := "(I)V" } : Jvm.MethodName) prog_9_method_39_code (9 : Nat) (Option.none : Option Jvm.ClassFile.FieldType)) ∈ utbl := u_mem (List.mem_of_getElem? (i := 742) (by decide +kernel)) (by decide +kernel)
theorem wd694 : (Jvm.Cond.methodLink "ShortVectorsModel" (197 : Nat) ({ cls := "ShortVectorsModel", name := "lead", desc := "(I)I" } : Jvm.MethodName)) ∈ utbl := u_mem (List.mem_of_getElem? (i := 743) (by decide +kernel)) (by decide +kernel)
theorem wd696 : (Jvm.Cond.instanceMethod ({ cls := "ShortVectorsModel", name := "lead", desc := "(I)I" } : Jvm.MethodName)) ∈ utbl := u_mem (List.mem_of_getElem? (i := 745) (by decide +kernel)) (by decide +kernel)
theorem wd697 : (Jvm.Cond.code ({ cls := "ShortVectorsModel", name := "lead", desc := "(I)I" } : Jvm.MethodName) prog_9_method_40_code (3 : Nat) (Option.some Jvm.ClassFile.FieldType.int)) ∈ utbl := u_mem (List.mem_of_getElem? (i := 746) (by decide +kernel)) (by decide +kernel)
theorem wd698 : (Jvm.Cond.methodLink "ShortVectorsModel" (200 : Nat) ({ cls := "ShortVectorsModel", name := "shrink", desc := "()V" } : Jvm.MethodName)) ∈ utbl := u_mem (List.mem_of_getElem? (i := 747) (by decide +kernel)) (by decide +kernel)
theorem wd700 : (Jvm.Cond.instanceMethod ({ cls := "ShortVectorsModel", name := "shrink", desc := "()V" } : Jvm.MethodName)) ∈ utbl := u_mem (List.mem_of_getElem? (i := 749) (by decide +kernel)) (by decide +kernel)
theorem wd701 : (Jvm.Cond.code ({ cls := "ShortVectorsModel", name := "shrink", desc := "()V" } : Jvm.MethodName) prog_9_method_41_code (4 : Nat) (Option.none : Option Jvm.ClassFile.FieldType)) ∈ utbl := u_mem (List.mem_of_getElem? (i := 750) (by decide +kernel)) (by decide +kernel)
theorem wd702 : (Jvm.Cond.methodLink "ShortVectorsModel" (178 : Nat) ({ cls := "ShortVectorsModel", name := "compare", desc := "(IJ)V" } : Jvm.MethodName)) ∈ utbl := u_mem (List.mem_of_getElem? (i := 751) (by decide +kernel)) (by decide +kernel)
theorem wd704 : (Jvm.Cond.instanceMethod ({ cls := "ShortVectorsModel", name := "compare", desc := "(IJ)V" } : Jvm.MethodName)) ∈ utbl := u_mem (List.mem_of_getElem? (i := 753) (by decide +kernel)) (by decide +kernel)
theorem wd705 : (Jvm.Cond.code ({ cls := "ShortVectorsModel", name := "compare", desc := "(IJ)V" } : Jvm.MethodName) prog_9_method_45_code (6 : Nat) (Option.none : Option Jvm.ClassFile.FieldType)) ∈ utbl := u_mem (List.mem_of_getElem? (i := 754) (by decide +kernel)) (by decide +kernel)
theorem wd706 : (Jvm.Cond.methodLink "ShortVectorsModel" (163 : Nat) ({ cls := "ShortVectorsModel", name := "finish", desc := "(I)V" } : Jvm.MethodName)) ∈ utbl := u_mem (List.mem_of_getElem? (i := 755) (by decide +kernel)) (by decide +kernel)
theorem wd708 : (Jvm.Cond.instanceMethod ({ cls := "ShortVectorsModel", name := "finish", desc := "(I)V" } : Jvm.MethodName)) ∈ utbl := u_mem (List.mem_of_getElem? (i := 757) (by decide +kernel)) (by decide +kernel)
theorem wd709 : (Jvm.Cond.code ({ cls := "ShortVectorsModel", name := "finish", desc := "(I)V" } : Jvm.MethodName) prog_9_method_30_code (8 : Nat) (Option.none : Option Jvm.ClassFile.FieldType)) ∈ utbl := u_mem (List.mem_of_getElem? (i := 758) (by decide +kernel)) (by decide +kernel)
theorem wd710 : (Jvm.Cond.constantLong "ShortVectorsModel" (130 : Nat) (2 : Int64)) ∈ utbl := u_mem (List.mem_of_getElem? (i := 759) (by decide +kernel)) (by decide +kernel)
theorem wd711 : (Jvm.Cond.methodLink "ShortVectorsModel" (159 : Nat) ({ cls := "ShortVectorsModel", name := "along", desc := "(IJJ)V" } : Jvm.MethodName)) ∈ utbl := u_mem (List.mem_of_getElem? (i := 760) (by decide +kernel)) (by decide +kernel)
theorem wd713 : (Jvm.Cond.instanceMethod ({ cls := "ShortVectorsModel", name := "along", desc := "(IJJ)V" } : Jvm.MethodName)) ∈ utbl := u_mem (List.mem_of_getElem? (i := 762) (by decide +kernel)) (by decide +kernel)
theorem wd714 : (Jvm.Cond.code ({ cls := "ShortVectorsModel", name := "along", desc := "(IJJ)V" } : Jvm.MethodName) prog_9_method_29_code (6 : Nat) (Option.none : Option Jvm.ClassFile.FieldType)) ∈ utbl := u_mem (List.mem_of_getElem? (i := 763) (by decide +kernel)) (by decide +kernel)
theorem wd715 : (Jvm.Cond.methodLink "ShortVectorsModel" (143 : Nat) ({ cls := "ShortVectorsModel", name := "take", desc := "(I)V" } : Jvm.MethodName)) ∈ utbl := u_mem (List.mem_of_getElem? (i := 764) (by decide +kernel)) (by decide +kernel)
theorem wd717 : (Jvm.Cond.instanceMethod ({ cls := "ShortVectorsModel", name := "take", desc := "(I)V" } : Jvm.MethodName)) ∈ utbl := u_mem (List.mem_of_getElem? (i := 766) (by decide +kernel)) (by decide +kernel)
theorem wd718 : (Jvm.Cond.code ({ cls := "ShortVectorsModel", name := "take", desc := "(I)V" } : Jvm.MethodName) prog_9_method_28_code (7 : Nat) (Option.none : Option Jvm.ClassFile.FieldType)) ∈ utbl := u_mem (List.mem_of_getElem? (i := 767) (by decide +kernel)) (by decide +kernel)
theorem wd719 : (Jvm.Cond.methodLink "ShortVectorsModel" (166 : Nat) ({ cls := "ShortVectorsModel", name := "range", desc := "(I)V" } : Jvm.MethodName)) ∈ utbl := u_mem (List.mem_of_getElem? (i := 768) (by decide +kernel)) (by decide +kernel)
theorem wd721 : (Jvm.Cond.instanceMethod ({ cls := "ShortVectorsModel", name := "range", desc := "(I)V" } : Jvm.MethodName)) ∈ utbl := u_mem (List.mem_of_getElem? (i := 770) (by decide +kernel)) (by decide +kernel)
theorem wd722 : (Jvm.Cond.code ({ cls := "ShortVectorsModel", name := "range", desc := "(I)V" } : Jvm.MethodName) prog_9_method_26_code (9 : Nat) (Option.none : Option Jvm.ClassFile.FieldType)) ∈ utbl := u_mem (List.mem_of_getElem? (i := 771) (by decide +kernel)) (by decide +kernel)
theorem wd723 : (Jvm.Cond.methodLink "ShortVectorsModel" (136 : Nat) ({ cls := "ShortVectorsModel", name := "root", desc := "(J)J" } : Jvm.MethodName)) ∈ utbl := u_mem (List.mem_of_getElem? (i := 772) (by decide +kernel)) (by decide +kernel)
theorem wd724 : (Jvm.Cond.static ({ cls := "ShortVectorsModel", name := "root", desc := "(J)J" } : Jvm.MethodName)) ∈ utbl := u_mem (List.mem_of_getElem? (i := 773) (by decide +kernel)) (by decide +kernel)
theorem wd725 : (Jvm.Cond.code ({ cls := "ShortVectorsModel", name := "root", desc := "(J)J" } : Jvm.MethodName) prog_9_method_25_code (6 : Nat) (Option.some Jvm.ClassFile.FieldType.long)) ∈ utbl := u_mem (List.mem_of_getElem? (i := 774) (by decide +kernel)) (by decide +kernel)
theorem wd726 : (Jvm.Cond.constantLong "ShortVectorsModel" (128 : Nat) (65536 : Int64)) ∈ utbl := u_mem (List.mem_of_getElem? (i := 775) (by decide +kernel)) (by decide +kernel)
theorem wd727 : (Jvm.Cond.methodLink "ShortVectorsLaw" (65 : Nat) ({ cls := "ShortVectorsModel", name := "vector", desc := "(II)I" } : Jvm.MethodName)) ∈ utbl := u_mem (List.mem_of_getElem? (i := 776) (by decide +kernel)) (by decide +kernel)
theorem wd728 : (Jvm.Cond.instanceMethod ({ cls := "ShortVectorsModel", name := "vector", desc := "(II)I" } : Jvm.MethodName)) ∈ utbl := u_mem (List.mem_of_getElem? (i := 777) (by decide +kernel)) (by decide +kernel)
theorem wd729 : (Jvm.Cond.selects "ShortVectorsModel" ({ cls := "ShortVectorsModel", name := "vector", desc := "(II)I" } : Jvm.MethodName) ({ cls := "ShortVectorsModel", name := "vector", desc := "(II)I" } : Jvm.MethodName)) ∈ utbl := u_mem (List.mem_of_getElem? (i := 778) (by decide +kernel)) (by decide +kernel)
theorem wd730 : (Jvm.Cond.code ({ cls := "ShortVectorsModel", name := "vector", desc := "(II)I" } : Jvm.MethodName) prog_9_method_38_code (3 : Nat) (Option.some Jvm.ClassFile.FieldType.int)) ∈ utbl := u_mem (List.mem_of_getElem? (i := 779) (by decide +kernel)) (by decide +kernel)
theorem wd731 : (Jvm.Cond.methodLink "ShortVectorsModel" (194 : Nat) ({ cls := "ShortVectorsModel", name := "list", desc := "()V" } : Jvm.MethodName)) ∈ utbl := u_mem (List.mem_of_getElem? (i := 780) (by decide +kernel)) (by decide +kernel)
theorem wd733 : (Jvm.Cond.instanceMethod ({ cls := "ShortVectorsModel", name := "list", desc := "()V" } : Jvm.MethodName)) ∈ utbl := u_mem (List.mem_of_getElem? (i := 782) (by decide +kernel)) (by decide +kernel)
theorem wd734 : (Jvm.Cond.code ({ cls := "ShortVectorsModel", name := "list", desc := "()V" } : Jvm.MethodName) prog_9_method_37_code (3 : Nat) (Option.none : Option Jvm.ClassFile.FieldType)) ∈ utbl := u_mem (List.mem_of_getElem? (i := 783) (by decide +kernel)) (by decide +kernel)
theorem wd735 : (Jvm.Cond.methodLink "ShortVectorsLaw" (56 : Nat) ({ cls := "ShortVectorsModel", name := "minimum", desc := "(I)I" } : Jvm.MethodName)) ∈ utbl := u_mem (List.mem_of_getElem? (i := 784) (by decide +kernel)) (by decide +kernel)
theorem wd736 : (Jvm.Cond.instanceMethod ({ cls := "ShortVectorsModel", name := "minimum", desc := "(I)I" } : Jvm.MethodName)) ∈ utbl := u_mem (List.mem_of_getElem? (i := 785) (by decide +kernel)) (by decide +kernel)
theorem wd737 : (Jvm.Cond.selects "ShortVectorsModel" ({ cls := "ShortVectorsModel", name := "minimum", desc := "(I)I" } : Jvm.MethodName) ({ cls := "ShortVectorsModel", name := "minimum", desc := "(I)I" } : Jvm.MethodName)) ∈ utbl := u_mem (List.mem_of_getElem? (i := 786) (by decide +kernel)) (by decide +kernel)
theorem wd738 : (Jvm.Cond.code ({ cls := "ShortVectorsModel", name := "minimum", desc := "(I)I" } : Jvm.MethodName) prog_9_method_44_code (2 : Nat) (Option.some Jvm.ClassFile.FieldType.int)) ∈ utbl := u_mem (List.mem_of_getElem? (i := 787) (by decide +kernel)) (by decide +kernel)
theorem wd739 : (Jvm.Cond.methodLink "ShortVectorsModel" (207 : Nat) ({ cls := "ShortVectorsModel", name := "measure", desc := "()V" } : Jvm.MethodName)) ∈ utbl := u_mem (List.mem_of_getElem? (i := 788) (by decide +kernel)) (by decide +kernel)
theorem wd741 : (Jvm.Cond.instanceMethod ({ cls := "ShortVectorsModel", name := "measure", desc := "()V" } : Jvm.MethodName)) ∈ utbl := u_mem (List.mem_of_getElem? (i := 790) (by decide +kernel)) (by decide +kernel)
theorem wd742 : (Jvm.Cond.code ({ cls := "ShortVectorsModel", name := "measure", desc := "()V" } : Jvm.MethodName) prog_9_method_43_code (6 : Nat) (Option.none : Option Jvm.ClassFile.FieldType)) ∈ utbl := u_mem (List.mem_of_getElem? (i := 791) (by decide +kernel)) (by decide +kernel)
theorem wd743 : (Jvm.Cond.methodLink "ShortVectorsModel" (203 : Nat) ({ cls := "ShortVectorsModel", name := "reaches", desc := "(II)Z" } : Jvm.MethodName)) ∈ utbl := u_mem (List.mem_of_getElem? (i := 792) (by decide +kernel)) (by decide +kernel)
theorem wd745 : (Jvm.Cond.instanceMethod ({ cls := "ShortVectorsModel", name := "reaches", desc := "(II)Z" } : Jvm.MethodName)) ∈ utbl := u_mem (List.mem_of_getElem? (i := 794) (by decide +kernel)) (by decide +kernel)
theorem wd746 : (Jvm.Cond.code ({ cls := "ShortVectorsModel", name := "reaches", desc := "(II)Z" } : Jvm.MethodName) prog_9_method_42_code (3 : Nat) (Option.some Jvm.ClassFile.FieldType.boolean)) ∈ utbl := u_mem (List.mem_of_getElem? (i := 795) (by decide +kernel)) (by decide +kernel)
theorem wd747 : (Jvm.Cond.methodLink "ShortVectorsLaw" (69 : Nat) ({ cls := "ShortVectorsModel", name := "distance", desc := "(IIII)I" } : Jvm.MethodName)) ∈ utbl := u_mem (List.mem_of_getElem? (i := 796) (by decide +kernel)) (by decide +kernel)
theorem wd748 : (Jvm.Cond.instanceMethod ({ cls := "ShortVectorsModel", name := "distance", desc := "(IIII)I" } : Jvm.MethodName)) ∈ utbl := u_mem (List.mem_of_getElem? (i := 797) (by decide +kernel)) (by decide +kernel)
theorem wd749 : (Jvm.Cond.selects "ShortVectorsModel" ({ cls := "ShortVectorsModel", name := "distance", desc := "(IIII)I" } : Jvm.MethodName) ({ cls := "ShortVectorsModel", name := "distance", desc := "(IIII)I" } : Jvm.MethodName)) ∈ utbl := u_mem (List.mem_of_getElem? (i := 798) (by decide +kernel)) (by decide +kernel)
theorem wd750 : (Jvm.Cond.code ({ cls := "ShortVectorsModel", name := "distance", desc := "(IIII)I" } : Jvm.MethodName) prog_9_method_47_code (5 : Nat) (Option.some Jvm.ClassFile.FieldType.int)) ∈ utbl := u_mem (List.mem_of_getElem? (i := 799) (by decide +kernel)) (by decide +kernel)
theorem wd751 : (Jvm.Cond.methodLink "ShortVectorsModel" (213 : Nat) ({ cls := "ShortVectorsModel", name := "seek", desc := "(IIII)V" } : Jvm.MethodName)) ∈ utbl := u_mem (List.mem_of_getElem? (i := 800) (by decide +kernel)) (by decide +kernel)
theorem wd753 : (Jvm.Cond.instanceMethod ({ cls := "ShortVectorsModel", name := "seek", desc := "(IIII)V" } : Jvm.MethodName)) ∈ utbl := u_mem (List.mem_of_getElem? (i := 802) (by decide +kernel)) (by decide +kernel)
theorem wd754 : (Jvm.Cond.code ({ cls := "ShortVectorsModel", name := "seek", desc := "(IIII)V" } : Jvm.MethodName) prog_9_method_46_code (7 : Nat) (Option.none : Option Jvm.ClassFile.FieldType)) ∈ utbl := u_mem (List.mem_of_getElem? (i := 803) (by decide +kernel)) (by decide +kernel)
theorem wd755 : (Jvm.Cond.methodLink "ShortVectorsLaw" (74 : Nat) ({ cls := "ShortVectorsModel", name := "nearest", desc := "(IIIII)I" } : Jvm.MethodName)) ∈ utbl := u_mem (List.mem_of_getElem? (i := 804) (by decide +kernel)) (by decide +kernel)
theorem wd756 : (Jvm.Cond.instanceMethod ({ cls := "ShortVectorsModel", name := "nearest", desc := "(IIIII)I" } : Jvm.MethodName)) ∈ utbl := u_mem (List.mem_of_getElem? (i := 805) (by decide +kernel)) (by decide +kernel)
theorem wd757 : (Jvm.Cond.selects "ShortVectorsModel" ({ cls := "ShortVectorsModel", name := "nearest", desc := "(IIIII)I" } : Jvm.MethodName) ({ cls := "ShortVectorsModel", name := "nearest", desc := "(IIIII)I" } : Jvm.MethodName)) ∈ utbl := u_mem (List.mem_of_getElem? (i := 806) (by decide +kernel)) (by decide +kernel)
theorem wd758 : (Jvm.Cond.code ({ cls := "ShortVectorsModel", name := "nearest", desc := "(IIIII)I" } : Jvm.MethodName) prog_9_method_48_code (6 : Nat) (Option.some Jvm.ClassFile.FieldType.int)) ∈ utbl := u_mem (List.mem_of_getElem? (i := 807) (by decide +kernel)) (by decide +kernel)
theorem wd759 : (Jvm.Cond.sameMethod "ShortVectors$Collector" "ShortVectors$Collector" "wants" "(J)Z") ∈ utbl := u_mem (List.mem_of_getElem? (i := 808) (by decide +kernel)) (by decide +kernel)
theorem wd760 : (Jvm.Cond.selects "ShortVectors$Closest" ({ cls := "ShortVectors$Collector", name := "wants", desc := "(J)Z" } : Jvm.MethodName) ({ cls := "ShortVectors$Collector", name := "wants", desc := "(J)Z" } : Jvm.MethodName)) ∈ utbl := u_mem (List.mem_of_getElem? (i := 809) (by decide +kernel)) (by decide +kernel)
theorem wd761 : (Jvm.Cond.selects "ShortVectors$FirstVectors" ({ cls := "ShortVectors$Collector", name := "wants", desc := "(J)Z" } : Jvm.MethodName) ({ cls := "ShortVectors$Collector", name := "wants", desc := "(J)Z" } : Jvm.MethodName)) ∈ utbl := u_mem (List.mem_of_getElem? (i := 810) (by decide +kernel)) (by decide +kernel)
theorem wd762 : (Jvm.Cond.selects "ShortVectors$Tally" ({ cls := "ShortVectors$Collector", name := "wants", desc := "(J)Z" } : Jvm.MethodName) ({ cls := "ShortVectors$Collector", name := "wants", desc := "(J)Z" } : Jvm.MethodName)) ∈ utbl := u_mem (List.mem_of_getElem? (i := 811) (by decide +kernel)) (by decide +kernel)
theorem ws0 : Cond.selects "ShortVectors" ⟨"ShortVectors", "ask", "(IIIII)Z"⟩ ⟨"ShortVectors", "ask", "(IIIII)Z"⟩ ∈ utbl := u_mem (List.mem_of_getElem? (i := 0) (by decide +kernel)) (by decide +kernel)
theorem ws1 : Cond.selects "ShortVectors$Echelon" ⟨"ShortVectors$Echelon", "merge", "([JI)V"⟩ ⟨"ShortVectors$Echelon", "merge", "([JI)V"⟩ ∈ utbl := u_mem (List.mem_of_getElem? (i := 1) (by decide +kernel)) (by decide +kernel)
theorem ws2 : Cond.selects "ShortVectors$Echelon" ⟨"ShortVectors$Echelon", "shorten", "(I)V"⟩ ⟨"ShortVectors$Echelon", "shorten", "(I)V"⟩ ∈ utbl := u_mem (List.mem_of_getElem? (i := 2) (by decide +kernel)) (by decide +kernel)
theorem ws3 : Cond.selects "ShortVectors" ⟨"ShortVectors", "forget", "()V"⟩ ⟨"ShortVectors", "forget", "()V"⟩ ∈ utbl := u_mem (List.mem_of_getElem? (i := 3) (by decide +kernel)) (by decide +kernel)
theorem ws4 : Cond.selects "ShortVectors" ⟨"ShortVectors", "gather", "(LShortVectors$Echelon;I)V"⟩ ⟨"ShortVectors", "gather", "(LShortVectors$Echelon;I)V"⟩ ∈ utbl := u_mem (List.mem_of_getElem? (i := 4) (by decide +kernel)) (by decide +kernel)
theorem ws5 : Cond.selects "ShortVectors" ⟨"ShortVectors", "readyBasis", "()LShortVectors$Basis;"⟩ ⟨"ShortVectors", "readyBasis", "()LShortVectors$Basis;"⟩ ∈ utbl := u_mem (List.mem_of_getElem? (i := 5) (by decide +kernel)) (by decide +kernel)
theorem ws6 : Cond.selects "ShortVectors$Basis" ⟨"ShortVectors$Basis", "reduce", "()V"⟩ ⟨"ShortVectors$Basis", "reduce", "()V"⟩ ∈ utbl := u_mem (List.mem_of_getElem? (i := 6) (by decide +kernel)) (by decide +kernel)
theorem ws7 : Cond.selects "ShortVectors$Basis" ⟨"ShortVectors$Basis", "shortenByPairs", "()Z"⟩ ⟨"ShortVectors$Basis", "shortenByPairs", "()Z"⟩ ∈ utbl := u_mem (List.mem_of_getElem? (i := 7) (by decide +kernel)) (by decide +kernel)
theorem ws8 : Cond.selects "ShortVectors$Basis" ⟨"ShortVectors$Basis", "shortenBy", "(II)Z"⟩ ⟨"ShortVectors$Basis", "shortenBy", "(II)Z"⟩ ∈ utbl := u_mem (List.mem_of_getElem? (i := 8) (by decide +kernel)) (by decide +kernel)
theorem ws9 : Cond.selects "ShortVectors$Basis" ⟨"ShortVectors$Basis", "shortenBySums", "()Z"⟩ ⟨"ShortVectors$Basis", "shortenBySums", "()Z"⟩ ∈ utbl := u_mem (List.mem_of_getElem? (i := 9) (by decide +kernel)) (by decide +kernel)
theorem ws10 : Cond.selects "ShortVectors$Basis" ⟨"ShortVectors$Basis", "shortenByChoice", "(II)Z"⟩ ⟨"ShortVectors$Basis", "shortenByChoice", "(II)Z"⟩ ∈ utbl := u_mem (List.mem_of_getElem? (i := 10) (by decide +kernel)) (by decide +kernel)
theorem ws11 : Cond.selects "ShortVectors$Basis" ⟨"ShortVectors$Basis", "sort", "()V"⟩ ⟨"ShortVectors$Basis", "sort", "()V"⟩ ∈ utbl := u_mem (List.mem_of_getElem? (i := 11) (by decide +kernel)) (by decide +kernel)
theorem ws12 : Cond.selects "ShortVectors$Basis" ⟨"ShortVectors$Basis", "direct", "(I)V"⟩ ⟨"ShortVectors$Basis", "direct", "(I)V"⟩ ∈ utbl := u_mem (List.mem_of_getElem? (i := 12) (by decide +kernel)) (by decide +kernel)
theorem ws13 : Cond.selects "ShortVectors$Basis" ⟨"ShortVectors$Basis", "eliminate", "(IJ)V"⟩ ⟨"ShortVectors$Basis", "eliminate", "(IJ)V"⟩ ∈ utbl := u_mem (List.mem_of_getElem? (i := 13) (by decide +kernel)) (by decide +kernel)
theorem ws14 : Cond.selects "ShortVectors$Basis" ⟨"ShortVectors$Basis", "squareOutside", "([J)J"⟩ ⟨"ShortVectors$Basis", "squareOutside", "([J)J"⟩ ∈ utbl := u_mem (List.mem_of_getElem? (i := 14) (by decide +kernel)) (by decide +kernel)
theorem ws15 : Cond.selects "ShortVectors$Basis" ⟨"ShortVectors$Basis", "descend", "(IJLShortVectors$Collector;)V"⟩ ⟨"ShortVectors$Basis", "descend", "(IJLShortVectors$Collector;)V"⟩ ∈ utbl := u_mem (List.mem_of_getElem? (i := 15) (by decide +kernel)) (by decide +kernel)
theorem ws16 : Cond.selects "ShortVectors$FirstVectors" ⟨"ShortVectors$FirstVectors", "precedes", "([JJI)Z"⟩ ⟨"ShortVectors$FirstVectors", "precedes", "([JJI)Z"⟩ ∈ utbl := u_mem (List.mem_of_getElem? (i := 16) (by decide +kernel)) (by decide +kernel)
theorem ws17 : Cond.selects "ShortVectors$FirstVectors" ⟨"ShortVectors$FirstVectors", "insert", "([JJI)V"⟩ ⟨"ShortVectors$FirstVectors", "insert", "([JJI)V"⟩ ∈ utbl := u_mem (List.mem_of_getElem? (i := 17) (by decide +kernel)) (by decide +kernel)
theorem ws18 : Cond.selects "ShortVectors$Basis" ⟨"ShortVectors$Basis", "walk", "(IJIJLShortVectors$Collector;)V"⟩ ⟨"ShortVectors$Basis", "walk", "(IJIJLShortVectors$Collector;)V"⟩ ∈ utbl := u_mem (List.mem_of_getElem? (i := 18) (by decide +kernel)) (by decide +kernel)
theorem ws19 : Cond.selects "ShortVectorsModel" ⟨"ShortVectorsModel", "changed", "()V"⟩ ⟨"ShortVectorsModel", "changed", "()V"⟩ ∈ utbl := u_mem (List.mem_of_getElem? (i := 19) (by decide +kernel)) (by decide +kernel)
theorem ws20 : Cond.selects "ShortVectorsModel" ⟨"ShortVectorsModel", "look", "(I)V"⟩ ⟨"ShortVectorsModel", "look", "(I)V"⟩ ∈ utbl := u_mem (List.mem_of_getElem? (i := 20) (by decide +kernel)) (by decide +kernel)
theorem ws21 : Cond.selects "ShortVectorsModel" ⟨"ShortVectorsModel", "enter", "()V"⟩ ⟨"ShortVectorsModel", "enter", "()V"⟩ ∈ utbl := u_mem (List.mem_of_getElem? (i := 21) (by decide +kernel)) (by decide +kernel)
theorem ws22 : Cond.selects "ShortVectorsModel" ⟨"ShortVectorsModel", "rowAt", "(I)I"⟩ ⟨"ShortVectorsModel", "rowAt", "(I)I"⟩ ∈ utbl := u_mem (List.mem_of_getElem? (i := 22) (by decide +kernel)) (by decide +kernel)
theorem ws23 : Cond.selects "ShortVectorsModel" ⟨"ShortVectorsModel", "tidy", "(I)V"⟩ ⟨"ShortVectorsModel", "tidy", "(I)V"⟩ ∈ utbl := u_mem (List.mem_of_getElem? (i := 23) (by decide +kernel)) (by decide +kernel)
theorem ws24 : Cond.selects "ShortVectorsModel" ⟨"ShortVectorsModel", "insert", "(I)V"⟩ ⟨"ShortVectorsModel", "insert", "(I)V"⟩ ∈ utbl := u_mem (List.mem_of_getElem? (i := 24) (by decide +kernel)) (by decide +kernel)
theorem ws25 : Cond.selects "ShortVectorsModel" ⟨"ShortVectorsModel", "divide", "(I)V"⟩ ⟨"ShortVectorsModel", "divide", "(I)V"⟩ ∈ utbl := u_mem (List.mem_of_getElem? (i := 25) (by decide +kernel)) (by decide +kernel)
theorem ws26 : Cond.selects "ShortVectorsModel" ⟨"ShortVectorsModel", "swap", "(I)V"⟩ ⟨"ShortVectorsModel", "swap", "(I)V"⟩ ∈ utbl := u_mem (List.mem_of_getElem? (i := 26) (by decide +kernel)) (by decide +kernel)
theorem ws27 : Cond.selects "ShortVectorsModel" ⟨"ShortVectorsModel", "two", "(IIII)J"⟩ ⟨"ShortVectorsModel", "two", "(IIII)J"⟩ ∈ utbl := u_mem (List.mem_of_getElem? (i := 27) (by decide +kernel)) (by decide +kernel)
theorem ws28 : Cond.selects "ShortVectorsModel" ⟨"ShortVectorsModel", "three", "(III)J"⟩ ⟨"ShortVectorsModel", "three", "(III)J"⟩ ∈ utbl := u_mem (List.mem_of_getElem? (i := 28) (by decide +kernel)) (by decide +kernel)
theorem ws29 : Cond.selects "ShortVectorsModel" ⟨"ShortVectorsModel", "set", "(IIII)V"⟩ ⟨"ShortVectorsModel", "set", "(IIII)V"⟩ ∈ utbl := u_mem (List.mem_of_getElem? (i := 29) (by decide +kernel)) (by decide +kernel)
theorem ws30 : Cond.selects "ShortVectorsModel" ⟨"ShortVectorsModel", "times", "()J"⟩ ⟨"ShortVectorsModel", "times", "()J"⟩ ∈ utbl := u_mem (List.mem_of_getElem? (i := 30) (by decide +kernel)) (by decide +kernel)
theorem ws31 : Cond.selects "ShortVectorsModel" ⟨"ShortVectorsModel", "origin", "()V"⟩ ⟨"ShortVectorsModel", "origin", "()V"⟩ ∈ utbl := u_mem (List.mem_of_getElem? (i := 31) (by decide +kernel)) (by decide +kernel)
theorem ws32 : Cond.selects "ShortVectorsModel" ⟨"ShortVectorsModel", "walk", "(IJ)V"⟩ ⟨"ShortVectorsModel", "walk", "(IJ)V"⟩ ∈ utbl := u_mem (List.mem_of_getElem? (i := 32) (by decide +kernel)) (by decide +kernel)
theorem ws33 : Cond.selects "ShortVectorsModel" ⟨"ShortVectorsModel", "open", "(I)I"⟩ ⟨"ShortVectorsModel", "open", "(I)I"⟩ ∈ utbl := u_mem (List.mem_of_getElem? (i := 33) (by decide +kernel)) (by decide +kernel)
theorem ws34 : Cond.selects "ShortVectorsModel" ⟨"ShortVectorsModel", "visit", "(IJ)V"⟩ ⟨"ShortVectorsModel", "visit", "(IJ)V"⟩ ∈ utbl := u_mem (List.mem_of_getElem? (i := 34) (by decide +kernel)) (by decide +kernel)
theorem ws35 : Cond.selects "ShortVectorsModel" ⟨"ShortVectorsModel", "sortIn", "(IJ)V"⟩ ⟨"ShortVectorsModel", "sortIn", "(IJ)V"⟩ ∈ utbl := u_mem (List.mem_of_getElem? (i := 35) (by decide +kernel)) (by decide +kernel)
theorem ws36 : Cond.selects "ShortVectorsModel" ⟨"ShortVectorsModel", "before", "(IJI)Z"⟩ ⟨"ShortVectorsModel", "before", "(IJI)Z"⟩ ∈ utbl := u_mem (List.mem_of_getElem? (i := 36) (by decide +kernel)) (by decide +kernel)
theorem ws37 : Cond.selects "ShortVectorsModel" ⟨"ShortVectorsModel", "extend", "(I)V"⟩ ⟨"ShortVectorsModel", "extend", "(I)V"⟩ ∈ utbl := u_mem (List.mem_of_getElem? (i := 37) (by decide +kernel)) (by decide +kernel)
theorem ws38 : Cond.selects "ShortVectorsModel" ⟨"ShortVectorsModel", "lead", "(I)I"⟩ ⟨"ShortVectorsModel", "lead", "(I)I"⟩ ∈ utbl := u_mem (List.mem_of_getElem? (i := 38) (by decide +kernel)) (by decide +kernel)
theorem ws39 : Cond.selects "ShortVectorsModel" ⟨"ShortVectorsModel", "shrink", "()V"⟩ ⟨"ShortVectorsModel", "shrink", "()V"⟩ ∈ utbl := u_mem (List.mem_of_getElem? (i := 39) (by decide +kernel)) (by decide +kernel)
theorem ws40 : Cond.selects "ShortVectorsModel" ⟨"ShortVectorsModel", "compare", "(IJ)V"⟩ ⟨"ShortVectorsModel", "compare", "(IJ)V"⟩ ∈ utbl := u_mem (List.mem_of_getElem? (i := 40) (by decide +kernel)) (by decide +kernel)
theorem ws41 : Cond.selects "ShortVectorsModel" ⟨"ShortVectorsModel", "finish", "(I)V"⟩ ⟨"ShortVectorsModel", "finish", "(I)V"⟩ ∈ utbl := u_mem (List.mem_of_getElem? (i := 41) (by decide +kernel)) (by decide +kernel)
theorem ws42 : Cond.selects "ShortVectorsModel" ⟨"ShortVectorsModel", "along", "(IJJ)V"⟩ ⟨"ShortVectorsModel", "along", "(IJJ)V"⟩ ∈ utbl := u_mem (List.mem_of_getElem? (i := 42) (by decide +kernel)) (by decide +kernel)
theorem ws43 : Cond.selects "ShortVectorsModel" ⟨"ShortVectorsModel", "take", "(I)V"⟩ ⟨"ShortVectorsModel", "take", "(I)V"⟩ ∈ utbl := u_mem (List.mem_of_getElem? (i := 43) (by decide +kernel)) (by decide +kernel)
theorem ws44 : Cond.selects "ShortVectorsModel" ⟨"ShortVectorsModel", "range", "(I)V"⟩ ⟨"ShortVectorsModel", "range", "(I)V"⟩ ∈ utbl := u_mem (List.mem_of_getElem? (i := 44) (by decide +kernel)) (by decide +kernel)
theorem ws45 : Cond.selects "ShortVectorsModel" ⟨"ShortVectorsModel", "list", "()V"⟩ ⟨"ShortVectorsModel", "list", "()V"⟩ ∈ utbl := u_mem (List.mem_of_getElem? (i := 45) (by decide +kernel)) (by decide +kernel)
theorem ws46 : Cond.selects "ShortVectorsModel" ⟨"ShortVectorsModel", "measure", "()V"⟩ ⟨"ShortVectorsModel", "measure", "()V"⟩ ∈ utbl := u_mem (List.mem_of_getElem? (i := 46) (by decide +kernel)) (by decide +kernel)
theorem ws47 : Cond.selects "ShortVectorsModel" ⟨"ShortVectorsModel", "reaches", "(II)Z"⟩ ⟨"ShortVectorsModel", "reaches", "(II)Z"⟩ ∈ utbl := u_mem (List.mem_of_getElem? (i := 47) (by decide +kernel)) (by decide +kernel)
theorem ws48 : Cond.selects "ShortVectorsModel" ⟨"ShortVectorsModel", "seek", "(IIII)V"⟩ ⟨"ShortVectorsModel", "seek", "(IIII)V"⟩ ∈ utbl := u_mem (List.mem_of_getElem? (i := 48) (by decide +kernel)) (by decide +kernel)
abbrev cV_init : ByteArray := prog_1_method_1_code
def yV_init : MethodName := ⟨"ShortVectors", "<init>", "()V"⟩
abbrev cJO_init : ByteArray := object_method_1_code
def yJO_init : MethodName := ⟨"java/lang/Object", "<init>", "()V"⟩
abbrev cE_init : ByteArray := prog_5_method_1_code
def yE_init : MethodName := ⟨"ShortVectors$Echelon", "<init>", "()V"⟩
abbrev cB_init : ByteArray := prog_2_method_1_code
def yB_init : MethodName := ⟨"ShortVectors$Basis", "<init>", "()V"⟩
abbrev cT_init : ByteArray := prog_7_method_1_code
def yT_init : MethodName := ⟨"ShortVectors$Tally", "<init>", "()V"⟩
abbrev cK_init : ByteArray := prog_4_method_1_code
def yK_init : MethodName := ⟨"ShortVectors$Collector", "<init>", "()V"⟩
abbrev cF_init : ByteArray := prog_6_method_1_code
def yF_init : MethodName := ⟨"ShortVectors$FirstVectors", "<init>", "()V"⟩
abbrev cC_init : ByteArray := prog_3_method_1_code
def yC_init : MethodName := ⟨"ShortVectors$Closest", "<init>", "()V"⟩
abbrev cV_add : ByteArray := prog_1_method_2_code
def yV_add : MethodName := ⟨"ShortVectors", "add", "(IIII)I"⟩
abbrev cV_ask : ByteArray := prog_1_method_15_code
def yV_ask : MethodName := ⟨"ShortVectors", "ask", "(IIIII)Z"⟩
abbrev cV_copy : ByteArray := prog_1_method_20_code
def yV_copy : MethodName := ⟨"ShortVectors", "copy", "([J[J)V"⟩
abbrev cE_include : ByteArray := prog_5_method_6_code
def yE_include : MethodName := ⟨"ShortVectors$Echelon", "include", "([J)V"⟩
abbrev cE_merge : ByteArray := prog_5_method_7_code
def yE_merge : MethodName := ⟨"ShortVectors$Echelon", "merge", "([JI)V"⟩
abbrev cV_addMultiple : ByteArray := prog_1_method_21_code
def yV_addMultiple : MethodName := ⟨"ShortVectors", "addMultiple", "([J[JJ)V"⟩
abbrev cE_shorten : ByteArray := prog_5_method_8_code
def yE_shorten : MethodName := ⟨"ShortVectors$Echelon", "shorten", "(I)V"⟩
abbrev cE_isHeld : ByteArray := prog_5_method_4_code
def yE_isHeld : MethodName := ⟨"ShortVectors$Echelon", "isHeld", "(I)Z"⟩
abbrev cJM_floorDiv : ByteArray := prog_10_method_49_code
def yJM_floorDiv : MethodName := ⟨"java/lang/Math", "floorDiv", "(JJ)J"⟩
abbrev cV_forget : ByteArray := prog_1_method_17_code
def yV_forget : MethodName := ⟨"ShortVectors", "forget", "()V"⟩
abbrev cV_drop : ByteArray := prog_1_method_3_code
def yV_drop : MethodName := ⟨"ShortVectors", "drop", "()Z"⟩
abbrev cV_gather : ByteArray := prog_1_method_16_code
def yV_gather : MethodName := ⟨"ShortVectors", "gather", "(LShortVectors$Echelon;I)V"⟩
abbrev cE_clear : ByteArray := prog_5_method_2_code
def yE_clear : MethodName := ⟨"ShortVectors$Echelon", "clear", "()V"⟩
abbrev cJA_fillJ : ByteArray := prog_12_method_101_code
def yJA_fillJ : MethodName := ⟨"java/util/Arrays", "fill", "([JJ)V"⟩
abbrev cV_generators : ByteArray := prog_1_method_4_code
def yV_generators : MethodName := ⟨"ShortVectors", "generators", "()I"⟩
abbrev cV_rank : ByteArray := prog_1_method_5_code
def yV_rank : MethodName := ⟨"ShortVectors", "rank", "()I"⟩
abbrev cE_size : ByteArray := prog_5_method_3_code
def yE_size : MethodName := ⟨"ShortVectors$Echelon", "size", "()I"⟩
abbrev cV_volume : ByteArray := prog_1_method_6_code
def yV_volume : MethodName := ⟨"ShortVectors", "volume", "()J"⟩
abbrev cV_readyBasis : ByteArray := prog_1_method_18_code
def yV_readyBasis : MethodName := ⟨"ShortVectors", "readyBasis", "()LShortVectors$Basis;"⟩
abbrev cB_take : ByteArray := prog_2_method_2_code
def yB_take : MethodName := ⟨"ShortVectors$Basis", "take", "(LShortVectors$Echelon;)V"⟩
abbrev cE_row : ByteArray := prog_5_method_5_code
def yE_row : MethodName := ⟨"ShortVectors$Echelon", "row", "(I)[J"⟩
abbrev cB_reduce : ByteArray := prog_2_method_5_code
def yB_reduce : MethodName := ⟨"ShortVectors$Basis", "reduce", "()V"⟩
abbrev cB_shortenByPairs : ByteArray := prog_2_method_6_code
def yB_shortenByPairs : MethodName := ⟨"ShortVectors$Basis", "shortenByPairs", "()Z"⟩
abbrev cB_shortenBy : ByteArray := prog_2_method_7_code
def yB_shortenBy : MethodName := ⟨"ShortVectors$Basis", "shortenBy", "(II)Z"⟩
abbrev cV_product : ByteArray := prog_1_method_22_code
def yV_product : MethodName := ⟨"ShortVectors", "product", "([J[J)J"⟩
abbrev cJM_abs : ByteArray := prog_10_method_61_code
def yJM_abs : MethodName := ⟨"java/lang/Math", "abs", "(J)J"⟩
abbrev cV_nearestQuotient : ByteArray := prog_1_method_25_code
def yV_nearestQuotient : MethodName := ⟨"ShortVectors", "nearestQuotient", "(JJ)J"⟩
abbrev cB_shortenBySums : ByteArray := prog_2_method_8_code
def yB_shortenBySums : MethodName := ⟨"ShortVectors$Basis", "shortenBySums", "()Z"⟩
abbrev cB_shortenByChoice : ByteArray := prog_2_method_9_code
def yB_shortenByChoice : MethodName := ⟨"ShortVectors$Basis", "shortenByChoice", "(II)Z"⟩
abbrev cB_sort : ByteArray := prog_2_method_10_code
def yB_sort : MethodName := ⟨"ShortVectors$Basis", "sort", "()V"⟩
abbrev cB_squareOf : ByteArray := prog_2_method_3_code
def yB_squareOf : MethodName := ⟨"ShortVectors$Basis", "squareOf", "(I)J"⟩
abbrev cB_direct : ByteArray := prog_2_method_11_code
def yB_direct : MethodName := ⟨"ShortVectors$Basis", "direct", "(I)V"⟩
abbrev cB_turnAway : ByteArray := prog_2_method_12_code
def yB_turnAway : MethodName := ⟨"ShortVectors$Basis", "turnAway", "([J[JJ)V"⟩
abbrev cV_commonDivisor : ByteArray := prog_1_method_24_code
def yV_commonDivisor : MethodName := ⟨"ShortVectors", "commonDivisor", "(JJ)J"⟩
abbrev cJM_max : ByteArray := prog_10_method_66_code
def yJM_max : MethodName := ⟨"java/lang/Math", "max", "(JJ)J"⟩
abbrev cB_volumeSquared : ByteArray := prog_2_method_13_code
def yB_volumeSquared : MethodName := ⟨"ShortVectors$Basis", "volumeSquared", "()J"⟩
abbrev cB_eliminate : ByteArray := prog_2_method_14_code
def yB_eliminate : MethodName := ⟨"ShortVectors$Basis", "eliminate", "(IJ)V"⟩
abbrev cV_spare : ByteArray := prog_1_method_7_code
def yV_spare : MethodName := ⟨"ShortVectors", "spare", "(I)Z"⟩
abbrev cE_holds : ByteArray := prog_5_method_9_code
def yE_holds : MethodName := ⟨"ShortVectors$Echelon", "holds", "([J)Z"⟩
abbrev cE_leastMultiplier : ByteArray := prog_5_method_10_code
def yE_leastMultiplier : MethodName := ⟨"ShortVectors$Echelon", "leastMultiplier", "([J)J"⟩
abbrev cV_has : ByteArray := prog_1_method_8_code
def yV_has : MethodName := ⟨"ShortVectors", "has", "(IIII)Z"⟩
abbrev cV_order : ByteArray := prog_1_method_9_code
def yV_order : MethodName := ⟨"ShortVectors", "order", "(IIII)J"⟩
abbrev cV_minimum : ByteArray := prog_1_method_10_code
def yV_minimum : MethodName := ⟨"ShortVectors", "minimum", "(I)I"⟩
abbrev cV_count : ByteArray := prog_1_method_11_code
def yV_count : MethodName := ⟨"ShortVectors", "count", "(I)I"⟩
abbrev cT_fillJ : ByteArray := prog_7_method_2_code
def yT_fillJ : MethodName := ⟨"ShortVectors$Tally", "fill", "(LShortVectors$Basis;)V"⟩
abbrev cJA_fillI : ByteArray := prog_12_method_103_code
def yJA_fillI : MethodName := ⟨"java/util/Arrays", "fill", "([II)V"⟩
abbrev cK_setBudget : ByteArray := prog_4_method_3_code
def yK_setBudget : MethodName := ⟨"ShortVectors$Collector", "setBudget", "(J)V"⟩
abbrev cB_search : ByteArray := prog_2_method_15_code
def yB_search : MethodName := ⟨"ShortVectors$Basis", "search", "(LShortVectors$Collector;)V"⟩
abbrev cK_goal : ByteArray := prog_4_method_2_code
def yK_goal : MethodName := ⟨"ShortVectors$Collector", "goal", "()[J"⟩
abbrev cB_squareOutside : ByteArray := prog_2_method_16_code
def yB_squareOutside : MethodName := ⟨"ShortVectors$Basis", "squareOutside", "([J)J"⟩
abbrev cB_descend : ByteArray := prog_2_method_17_code
def yB_descend : MethodName := ⟨"ShortVectors$Basis", "descend", "(IJLShortVectors$Collector;)V"⟩
abbrev cC_meet : ByteArray := prog_3_method_5_code
def yC_meet : MethodName := ⟨"ShortVectors$Closest", "meet", "([JJ)V"⟩
abbrev cV_comesBefore : ByteArray := prog_1_method_23_code
def yV_comesBefore : MethodName := ⟨"ShortVectors", "comesBefore", "([J[J)Z"⟩
abbrev cF_meet : ByteArray := prog_6_method_4_code
def yF_meet : MethodName := ⟨"ShortVectors$FirstVectors", "meet", "([JJ)V"⟩
abbrev cK_wants : ByteArray := prog_4_method_4_code
def yK_wants : MethodName := ⟨"ShortVectors$Collector", "wants", "(J)Z"⟩
abbrev cF_precedes : ByteArray := prog_6_method_5_code
def yF_precedes : MethodName := ⟨"ShortVectors$FirstVectors", "precedes", "([JJI)Z"⟩
abbrev cF_insert : ByteArray := prog_6_method_6_code
def yF_insert : MethodName := ⟨"ShortVectors$FirstVectors", "insert", "([JJI)V"⟩
abbrev cJM_min : ByteArray := prog_10_method_69_code
def yJM_min : MethodName := ⟨"java/lang/Math", "min", "(II)I"⟩
abbrev cT_meet : ByteArray := prog_7_method_4_code
def yT_meet : MethodName := ⟨"ShortVectors$Tally", "meet", "([JJ)V"⟩
abbrev cB_walk : ByteArray := prog_2_method_18_code
def yB_walk : MethodName := ⟨"ShortVectors$Basis", "walk", "(IJIJLShortVectors$Collector;)V"⟩
abbrev cT_upTo : ByteArray := prog_7_method_3_code
def yT_upTo : MethodName := ⟨"ShortVectors$Tally", "upTo", "(I)I"⟩
abbrev cV_vector : ByteArray := prog_1_method_12_code
def yV_vector : MethodName := ⟨"ShortVectors", "vector", "(II)I"⟩
abbrev cV_isAxis : ByteArray := prog_1_method_19_code
def yV_isAxis : MethodName := ⟨"ShortVectors", "isAxis", "(I)Z"⟩
abbrev cF_fillJ : ByteArray := prog_6_method_2_code
def yF_fillJ : MethodName := ⟨"ShortVectors$FirstVectors", "fill", "(LShortVectors$Basis;)V"⟩
abbrev cB_leastSquare : ByteArray := prog_2_method_4_code
def yB_leastSquare : MethodName := ⟨"ShortVectors$Basis", "leastSquare", "()J"⟩
abbrev cF_coordinate : ByteArray := prog_6_method_3_code
def yF_coordinate : MethodName := ⟨"ShortVectors$FirstVectors", "coordinate", "(II)I"⟩
abbrev cV_distance : ByteArray := prog_1_method_13_code
def yV_distance : MethodName := ⟨"ShortVectors", "distance", "(IIII)I"⟩
abbrev cC_approach : ByteArray := prog_3_method_2_code
def yC_approach : MethodName := ⟨"ShortVectors$Closest", "approach", "(LShortVectors$Basis;[J)V"⟩
abbrev cC_leastSquare : ByteArray := prog_3_method_3_code
def yC_leastSquare : MethodName := ⟨"ShortVectors$Closest", "leastSquare", "()I"⟩
abbrev cV_nearest : ByteArray := prog_1_method_14_code
def yV_nearest : MethodName := ⟨"ShortVectors", "nearest", "(IIIII)I"⟩
abbrev cC_coordinate : ByteArray := prog_3_method_4_code
def yC_coordinate : MethodName := ⟨"ShortVectors$Closest", "coordinate", "(I)I"⟩
abbrev cM_init : ByteArray := prog_9_method_1_code
def yM_init : MethodName := ⟨"ShortVectorsModel", "<init>", "()V"⟩
abbrev cM_add : ByteArray := prog_9_method_4_code
def yM_add : MethodName := ⟨"ShortVectorsModel", "add", "(IIII)I"⟩
abbrev cM_within : ByteArray := prog_9_method_2_code
def yM_within : MethodName := ⟨"ShortVectorsModel", "within", "(IIIII)Z"⟩
abbrev cM_changed : ByteArray := prog_9_method_3_code
def yM_changed : MethodName := ⟨"ShortVectorsModel", "changed", "()V"⟩
abbrev cM_drop : ByteArray := prog_9_method_5_code
def yM_drop : MethodName := ⟨"ShortVectorsModel", "drop", "()Z"⟩
abbrev cM_generators : ByteArray := prog_9_method_6_code
def yM_generators : MethodName := ⟨"ShortVectorsModel", "generators", "()I"⟩
abbrev cM_rank : ByteArray := prog_9_method_18_code
def yM_rank : MethodName := ⟨"ShortVectorsModel", "rank", "()I"⟩
abbrev cM_look : ByteArray := prog_9_method_14_code
def yM_look : MethodName := ⟨"ShortVectorsModel", "look", "(I)V"⟩
abbrev cM_enter : ByteArray := prog_9_method_13_code
def yM_enter : MethodName := ⟨"ShortVectorsModel", "enter", "()V"⟩
abbrev cM_rowAt : ByteArray := prog_9_method_8_code
def yM_rowAt : MethodName := ⟨"ShortVectorsModel", "rowAt", "(I)I"⟩
abbrev cM_tidy : ByteArray := prog_9_method_9_code
def yM_tidy : MethodName := ⟨"ShortVectorsModel", "tidy", "(I)V"⟩
abbrev cM_under : ByteArray := prog_9_method_7_code
def yM_under : MethodName := ⟨"ShortVectorsModel", "under", "(JJ)J"⟩
abbrev cM_insert : ByteArray := prog_9_method_12_code
def yM_insert : MethodName := ⟨"ShortVectorsModel", "insert", "(I)V"⟩
abbrev cM_divide : ByteArray := prog_9_method_11_code
def yM_divide : MethodName := ⟨"ShortVectorsModel", "divide", "(I)V"⟩
abbrev cM_swap : ByteArray := prog_9_method_10_code
def yM_swap : MethodName := ⟨"ShortVectorsModel", "swap", "(I)V"⟩
abbrev cM_volume : ByteArray := prog_9_method_21_code
def yM_volume : MethodName := ⟨"ShortVectorsModel", "volume", "()J"⟩
abbrev cM_two : ByteArray := prog_9_method_19_code
def yM_two : MethodName := ⟨"ShortVectorsModel", "two", "(IIII)J"⟩
abbrev cM_three : ByteArray := prog_9_method_20_code
def yM_three : MethodName := ⟨"ShortVectorsModel", "three", "(III)J"⟩
abbrev cM_spare : ByteArray := prog_9_method_22_code
def yM_spare : MethodName := ⟨"ShortVectorsModel", "spare", "(I)Z"⟩
abbrev cM_set : ByteArray := prog_9_method_17_code
def yM_set : MethodName := ⟨"ShortVectorsModel", "set", "(IIII)V"⟩
abbrev cM_times : ByteArray := prog_9_method_15_code
def yM_times : MethodName := ⟨"ShortVectorsModel", "times", "()J"⟩
abbrev cM_common : ByteArray := prog_9_method_16_code
def yM_common : MethodName := ⟨"ShortVectorsModel", "common", "(JJ)J"⟩
abbrev cM_has : ByteArray := prog_9_method_23_code
def yM_has : MethodName := ⟨"ShortVectorsModel", "has", "(IIII)Z"⟩
abbrev cM_order : ByteArray := prog_9_method_24_code
def yM_order : MethodName := ⟨"ShortVectorsModel", "order", "(IIII)J"⟩
abbrev cM_count : ByteArray := prog_9_method_34_code
def yM_count : MethodName := ⟨"ShortVectorsModel", "count", "(I)I"⟩
abbrev cM_origin : ByteArray := prog_9_method_33_code
def yM_origin : MethodName := ⟨"ShortVectorsModel", "origin", "()V"⟩
abbrev cM_walk : ByteArray := prog_9_method_31_code
def yM_walk : MethodName := ⟨"ShortVectorsModel", "walk", "(IJ)V"⟩
abbrev cM_open : ByteArray := prog_9_method_27_code
def yM_open : MethodName := ⟨"ShortVectorsModel", "open", "(I)I"⟩
abbrev cM_visit : ByteArray := prog_9_method_32_code
def yM_visit : MethodName := ⟨"ShortVectorsModel", "visit", "(IJ)V"⟩
abbrev cM_sortIn : ByteArray := prog_9_method_36_code
def yM_sortIn : MethodName := ⟨"ShortVectorsModel", "sortIn", "(IJ)V"⟩
abbrev cM_before : ByteArray := prog_9_method_35_code
def yM_before : MethodName := ⟨"ShortVectorsModel", "before", "(IJI)Z"⟩
abbrev cM_extend : ByteArray := prog_9_method_39_code
def yM_extend : MethodName := ⟨"ShortVectorsModel", "extend", "(I)V"⟩
abbrev cM_lead : ByteArray := prog_9_method_40_code
def yM_lead : MethodName := ⟨"ShortVectorsModel", "lead", "(I)I"⟩
abbrev cM_shrink : ByteArray := prog_9_method_41_code
def yM_shrink : MethodName := ⟨"ShortVectorsModel", "shrink", "()V"⟩
abbrev cM_compare : ByteArray := prog_9_method_45_code
def yM_compare : MethodName := ⟨"ShortVectorsModel", "compare", "(IJ)V"⟩
abbrev cM_finish : ByteArray := prog_9_method_30_code
def yM_finish : MethodName := ⟨"ShortVectorsModel", "finish", "(I)V"⟩
abbrev cM_along : ByteArray := prog_9_method_29_code
def yM_along : MethodName := ⟨"ShortVectorsModel", "along", "(IJJ)V"⟩
abbrev cM_take : ByteArray := prog_9_method_28_code
def yM_take : MethodName := ⟨"ShortVectorsModel", "take", "(I)V"⟩
abbrev cM_range : ByteArray := prog_9_method_26_code
def yM_range : MethodName := ⟨"ShortVectorsModel", "range", "(I)V"⟩
abbrev cM_root : ByteArray := prog_9_method_25_code
def yM_root : MethodName := ⟨"ShortVectorsModel", "root", "(J)J"⟩
abbrev cM_vector : ByteArray := prog_9_method_38_code
def yM_vector : MethodName := ⟨"ShortVectorsModel", "vector", "(II)I"⟩
abbrev cM_list : ByteArray := prog_9_method_37_code
def yM_list : MethodName := ⟨"ShortVectorsModel", "list", "()V"⟩
abbrev cM_minimum : ByteArray := prog_9_method_44_code
def yM_minimum : MethodName := ⟨"ShortVectorsModel", "minimum", "(I)I"⟩
abbrev cM_measure : ByteArray := prog_9_method_43_code
def yM_measure : MethodName := ⟨"ShortVectorsModel", "measure", "()V"⟩
abbrev cM_reaches : ByteArray := prog_9_method_42_code
def yM_reaches : MethodName := ⟨"ShortVectorsModel", "reaches", "(II)Z"⟩
abbrev cM_distance : ByteArray := prog_9_method_47_code
def yM_distance : MethodName := ⟨"ShortVectorsModel", "distance", "(IIII)I"⟩
abbrev cM_seek : ByteArray := prog_9_method_46_code
def yM_seek : MethodName := ⟨"ShortVectorsModel", "seek", "(IIII)V"⟩
abbrev cM_nearest : ByteArray := prog_9_method_48_code
def yM_nearest : MethodName := ⟨"ShortVectorsModel", "nearest", "(IIIII)I"⟩
end
section
abbrev MS : Type := Int32 × (Nat → Int32) × Int32 × Int32 × Int32 × (Nat → Int64) × (Nat → Int32) × (Nat → Int64) × (Nat → Int64) × (Nat → Int64) × (Nat → Int64) × (Nat → Int64) × (Nat → Int64) × Int64 × Int32 × Int32 × Int32 × Int32 × (Nat → Int64) × (Nat → Int64) × Int32 × Int32 × (Nat → Int64) × (Nat → Int32) × Int32 × (Nat → Int64) × Int32
def m_many (τ : MS) : Int32 := τ.1
def m_generator (τ : MS) : Nat → Int32 := τ.2.1
def m_known (τ : MS) : Int32 := τ.2.2.1
def m_without (τ : MS) : Int32 := τ.2.2.2.1
def m_rows (τ : MS) : Int32 := τ.2.2.2.2.1
def m_row (τ : MS) : Nat → Int64 := τ.2.2.2.2.2.1
def m_pivot (τ : MS) : Nat → Int32 := τ.2.2.2.2.2.2.1
def m_fresh (τ : MS) : Nat → Int64 := τ.2.2.2.2.2.2.2.1
def m_multiple (τ : MS) : Nat → Int64 := τ.2.2.2.2.2.2.2.2.1
def m_last (τ : MS) : Nat → Int64 := τ.2.2.2.2.2.2.2.2.2.1
def m_made (τ : MS) : Nat → Int64 := τ.2.2.2.2.2.2.2.2.2.2.1
def m_settled (τ : MS) : Nat → Int64 := τ.2.2.2.2.2.2.2.2.2.2.2.1
def m_point (τ : MS) : Nat → Int64 := τ.2.2.2.2.2.2.2.2.2.2.2.2.1
def m_limit (τ : MS) : Int64 := τ.2.2.2.2.2.2.2.2.2.2.2.2.2.1
def m_mode (τ : MS) : Int32 := τ.2.2.2.2.2.2.2.2.2.2.2.2.2.2.1
def m_counted (τ : MS) : Int32 := τ.2.2.2.2.2.2.2.2.2.2.2.2.2.2.2.1
def m_listed (τ : MS) : Int32 := τ.2.2.2.2.2.2.2.2.2.2.2.2.2.2.2.2.1
def m_held (τ : MS) : Int32 := τ.2.2.2.2.2.2.2.2.2.2.2.2.2.2.2.2.2.1
def m_first (τ : MS) : Nat → Int64 := τ.2.2.2.2.2.2.2.2.2.2.2.2.2.2.2.2.2.2.1
def m_squares (τ : MS) : Nat → Int64 := τ.2.2.2.2.2.2.2.2.2.2.2.2.2.2.2.2.2.2.2.1
def m_wanted (τ : MS) : Int32 := τ.2.2.2.2.2.2.2.2.2.2.2.2.2.2.2.2.2.2.2.2.1
def m_spanned (τ : MS) : Int32 := τ.2.2.2.2.2.2.2.2.2.2.2.2.2.2.2.2.2.2.2.2.2.1
def m_span (τ : MS) : Nat → Int64 := τ.2.2.2.2.2.2.2.2.2.2.2.2.2.2.2.2.2.2.2.2.2.2.1
def m_minima (τ : MS) : Nat → Int32 := τ.2.2.2.2.2.2.2.2.2.2.2.2.2.2.2.2.2.2.2.2.2.2.2.1
def m_measured (τ : MS) : Int32 := τ.2.2.2.2.2.2.2.2.2.2.2.2.2.2.2.2.2.2.2.2.2.2.2.2.1
def m_found (τ : MS) : Nat → Int64 := τ.2.2.2.2.2.2.2.2.2.2.2.2.2.2.2.2.2.2.2.2.2.2.2.2.2.1
def m_any (τ : MS) : Int32 := τ.2.2.2.2.2.2.2.2.2.2.2.2.2.2.2.2.2.2.2.2.2.2.2.2.2.2
def s_many (τ : MS) (x : Int32) : MS := (x, τ.2.1, τ.2.2.1, τ.2.2.2.1, τ.2.2.2.2.1, τ.2.2.2.2.2.1, τ.2.2.2.2.2.2.1, τ.2.2.2.2.2.2.2.1, τ.2.2.2.2.2.2.2.2.1, τ.2.2.2.2.2.2.2.2.2.1, τ.2.2.2.2.2.2.2.2.2.2.1, τ.2.2.2.2.2.2.2.2.2.2.2.1, τ.2.2.2.2.2.2.2.2.2.2.2.2.1, τ.2.2.2.2.2.2.2.2.2.2.2.2.2.1, τ.2.2.2.2.2.2.2.2.2.2.2.2.2.2.1, τ.2.2.2.2.2.2.2.2.2.2.2.2.2.2.2.1, τ.2.2.2.2.2.2.2.2.2.2.2.2.2.2.2.2.1, τ.2.2.2.2.2.2.2.2.2.2.2.2.2.2.2.2.2.1, τ.2.2.2.2.2.2.2.2.2.2.2.2.2.2.2.2.2.2.1, τ.2.2.2.2.2.2.2.2.2.2.2.2.2.2.2.2.2.2.2.1, τ.2.2.2.2.2.2.2.2.2.2.2.2.2.2.2.2.2.2.2.2.1, τ.2.2.2.2.2.2.2.2.2.2.2.2.2.2.2.2.2.2.2.2.2.1, τ.2.2.2.2.2.2.2.2.2.2.2.2.2.2.2.2.2.2.2.2.2.2.1, τ.2.2.2.2.2.2.2.2.2.2.2.2.2.2.2.2.2.2.2.2.2.2.2.1, τ.2.2.2.2.2.2.2.2.2.2.2.2.2.2.2.2.2.2.2.2.2.2.2.2.1, τ.2.2.2.2.2.2.2.2.2.2.2.2.2.2.2.2.2.2.2.2.2.2.2.2.2.1, τ.2.2.2.2.2.2.2.2.2.2.2.2.2.2.2.2.2.2.2.2.2.2.2.2.2.2)
def s_generator (τ : MS) (x : Nat → Int32) : MS := (τ.1, x, τ.2.2.1, τ.2.2.2.1, τ.2.2.2.2.1, τ.2.2.2.2.2.1, τ.2.2.2.2.2.2.1, τ.2.2.2.2.2.2.2.1, τ.2.2.2.2.2.2.2.2.1, τ.2.2.2.2.2.2.2.2.2.1, τ.2.2.2.2.2.2.2.2.2.2.1, τ.2.2.2.2.2.2.2.2.2.2.2.1, τ.2.2.2.2.2.2.2.2.2.2.2.2.1, τ.2.2.2.2.2.2.2.2.2.2.2.2.2.1, τ.2.2.2.2.2.2.2.2.2.2.2.2.2.2.1, τ.2.2.2.2.2.2.2.2.2.2.2.2.2.2.2.1, τ.2.2.2.2.2.2.2.2.2.2.2.2.2.2.2.2.1, τ.2.2.2.2.2.2.2.2.2.2.2.2.2.2.2.2.2.1, τ.2.2.2.2.2.2.2.2.2.2.2.2.2.2.2.2.2.2.1, τ.2.2.2.2.2.2.2.2.2.2.2.2.2.2.2.2.2.2.2.1, τ.2.2.2.2.2.2.2.2.2.2.2.2.2.2.2.2.2.2.2.2.1, τ.2.2.2.2.2.2.2.2.2.2.2.2.2.2.2.2.2.2.2.2.2.1, τ.2.2.2.2.2.2.2.2.2.2.2.2.2.2.2.2.2.2.2.2.2.2.1, τ.2.2.2.2.2.2.2.2.2.2.2.2.2.2.2.2.2.2.2.2.2.2.2.1, τ.2.2.2.2.2.2.2.2.2.2.2.2.2.2.2.2.2.2.2.2.2.2.2.2.1, τ.2.2.2.2.2.2.2.2.2.2.2.2.2.2.2.2.2.2.2.2.2.2.2.2.2.1, τ.2.2.2.2.2.2.2.2.2.2.2.2.2.2.2.2.2.2.2.2.2.2.2.2.2.2)
def s_known (τ : MS) (x : Int32) : MS := (τ.1, τ.2.1, x, τ.2.2.2.1, τ.2.2.2.2.1, τ.2.2.2.2.2.1, τ.2.2.2.2.2.2.1, τ.2.2.2.2.2.2.2.1, τ.2.2.2.2.2.2.2.2.1, τ.2.2.2.2.2.2.2.2.2.1, τ.2.2.2.2.2.2.2.2.2.2.1, τ.2.2.2.2.2.2.2.2.2.2.2.1, τ.2.2.2.2.2.2.2.2.2.2.2.2.1, τ.2.2.2.2.2.2.2.2.2.2.2.2.2.1, τ.2.2.2.2.2.2.2.2.2.2.2.2.2.2.1, τ.2.2.2.2.2.2.2.2.2.2.2.2.2.2.2.1, τ.2.2.2.2.2.2.2.2.2.2.2.2.2.2.2.2.1, τ.2.2.2.2.2.2.2.2.2.2.2.2.2.2.2.2.2.1, τ.2.2.2.2.2.2.2.2.2.2.2.2.2.2.2.2.2.2.1, τ.2.2.2.2.2.2.2.2.2.2.2.2.2.2.2.2.2.2.2.1, τ.2.2.2.2.2.2.2.2.2.2.2.2.2.2.2.2.2.2.2.2.1, τ.2.2.2.2.2.2.2.2.2.2.2.2.2.2.2.2.2.2.2.2.2.1, τ.2.2.2.2.2.2.2.2.2.2.2.2.2.2.2.2.2.2.2.2.2.2.1, τ.2.2.2.2.2.2.2.2.2.2.2.2.2.2.2.2.2.2.2.2.2.2.2.1, τ.2.2.2.2.2.2.2.2.2.2.2.2.2.2.2.2.2.2.2.2.2.2.2.2.1, τ.2.2.2.2.2.2.2.2.2.2.2.2.2.2.2.2.2.2.2.2.2.2.2.2.2.1, τ.2.2.2.2.2.2.2.2.2.2.2.2.2.2.2.2.2.2.2.2.2.2.2.2.2.2)
def s_without (τ : MS) (x : Int32) : MS := (τ.1, τ.2.1, τ.2.2.1, x, τ.2.2.2.2.1, τ.2.2.2.2.2.1, τ.2.2.2.2.2.2.1, τ.2.2.2.2.2.2.2.1, τ.2.2.2.2.2.2.2.2.1, τ.2.2.2.2.2.2.2.2.2.1, τ.2.2.2.2.2.2.2.2.2.2.1, τ.2.2.2.2.2.2.2.2.2.2.2.1, τ.2.2.2.2.2.2.2.2.2.2.2.2.1, τ.2.2.2.2.2.2.2.2.2.2.2.2.2.1, τ.2.2.2.2.2.2.2.2.2.2.2.2.2.2.1, τ.2.2.2.2.2.2.2.2.2.2.2.2.2.2.2.1, τ.2.2.2.2.2.2.2.2.2.2.2.2.2.2.2.2.1, τ.2.2.2.2.2.2.2.2.2.2.2.2.2.2.2.2.2.1, τ.2.2.2.2.2.2.2.2.2.2.2.2.2.2.2.2.2.2.1, τ.2.2.2.2.2.2.2.2.2.2.2.2.2.2.2.2.2.2.2.1, τ.2.2.2.2.2.2.2.2.2.2.2.2.2.2.2.2.2.2.2.2.1, τ.2.2.2.2.2.2.2.2.2.2.2.2.2.2.2.2.2.2.2.2.2.1, τ.2.2.2.2.2.2.2.2.2.2.2.2.2.2.2.2.2.2.2.2.2.2.1, τ.2.2.2.2.2.2.2.2.2.2.2.2.2.2.2.2.2.2.2.2.2.2.2.1, τ.2.2.2.2.2.2.2.2.2.2.2.2.2.2.2.2.2.2.2.2.2.2.2.2.1, τ.2.2.2.2.2.2.2.2.2.2.2.2.2.2.2.2.2.2.2.2.2.2.2.2.2.1, τ.2.2.2.2.2.2.2.2.2.2.2.2.2.2.2.2.2.2.2.2.2.2.2.2.2.2)
def s_rows (τ : MS) (x : Int32) : MS := (τ.1, τ.2.1, τ.2.2.1, τ.2.2.2.1, x, τ.2.2.2.2.2.1, τ.2.2.2.2.2.2.1, τ.2.2.2.2.2.2.2.1, τ.2.2.2.2.2.2.2.2.1, τ.2.2.2.2.2.2.2.2.2.1, τ.2.2.2.2.2.2.2.2.2.2.1, τ.2.2.2.2.2.2.2.2.2.2.2.1, τ.2.2.2.2.2.2.2.2.2.2.2.2.1, τ.2.2.2.2.2.2.2.2.2.2.2.2.2.1, τ.2.2.2.2.2.2.2.2.2.2.2.2.2.2.1, τ.2.2.2.2.2.2.2.2.2.2.2.2.2.2.2.1, τ.2.2.2.2.2.2.2.2.2.2.2.2.2.2.2.2.1, τ.2.2.2.2.2.2.2.2.2.2.2.2.2.2.2.2.2.1, τ.2.2.2.2.2.2.2.2.2.2.2.2.2.2.2.2.2.2.1, τ.2.2.2.2.2.2.2.2.2.2.2.2.2.2.2.2.2.2.2.1, τ.2.2.2.2.2.2.2.2.2.2.2.2.2.2.2.2.2.2.2.2.1, τ.2.2.2.2.2.2.2.2.2.2.2.2.2.2.2.2.2.2.2.2.2.1, τ.2.2.2.2.2.2.2.2.2.2.2.2.2.2.2.2.2.2.2.2.2.2.1, τ.2.2.2.2.2.2.2.2.2.2.2.2.2.2.2.2.2.2.2.2.2.2.2.1, τ.2.2.2.2.2.2.2.2.2.2.2.2.2.2.2.2.2.2.2.2.2.2.2.2.1, τ.2.2.2.2.2.2.2.2.2.2.2.2.2.2.2.2.2.2.2.2.2.2.2.2.2.1, τ.2.2.2.2.2.2.2.2.2.2.2.2.2.2.2.2.2.2.2.2.2.2.2.2.2.2)
def s_row (τ : MS) (x : Nat → Int64) : MS := (τ.1, τ.2.1, τ.2.2.1, τ.2.2.2.1, τ.2.2.2.2.1, x, τ.2.2.2.2.2.2.1, τ.2.2.2.2.2.2.2.1, τ.2.2.2.2.2.2.2.2.1, τ.2.2.2.2.2.2.2.2.2.1, τ.2.2.2.2.2.2.2.2.2.2.1, τ.2.2.2.2.2.2.2.2.2.2.2.1, τ.2.2.2.2.2.2.2.2.2.2.2.2.1, τ.2.2.2.2.2.2.2.2.2.2.2.2.2.1, τ.2.2.2.2.2.2.2.2.2.2.2.2.2.2.1, τ.2.2.2.2.2.2.2.2.2.2.2.2.2.2.2.1, τ.2.2.2.2.2.2.2.2.2.2.2.2.2.2.2.2.1, τ.2.2.2.2.2.2.2.2.2.2.2.2.2.2.2.2.2.1, τ.2.2.2.2.2.2.2.2.2.2.2.2.2.2.2.2.2.2.1, τ.2.2.2.2.2.2.2.2.2.2.2.2.2.2.2.2.2.2.2.1, τ.2.2.2.2.2.2.2.2.2.2.2.2.2.2.2.2.2.2.2.2.1, τ.2.2.2.2.2.2.2.2.2.2.2.2.2.2.2.2.2.2.2.2.2.1, τ.2.2.2.2.2.2.2.2.2.2.2.2.2.2.2.2.2.2.2.2.2.2.1, τ.2.2.2.2.2.2.2.2.2.2.2.2.2.2.2.2.2.2.2.2.2.2.2.1, τ.2.2.2.2.2.2.2.2.2.2.2.2.2.2.2.2.2.2.2.2.2.2.2.2.1, τ.2.2.2.2.2.2.2.2.2.2.2.2.2.2.2.2.2.2.2.2.2.2.2.2.2.1, τ.2.2.2.2.2.2.2.2.2.2.2.2.2.2.2.2.2.2.2.2.2.2.2.2.2.2)
def s_pivot (τ : MS) (x : Nat → Int32) : MS := (τ.1, τ.2.1, τ.2.2.1, τ.2.2.2.1, τ.2.2.2.2.1, τ.2.2.2.2.2.1, x, τ.2.2.2.2.2.2.2.1, τ.2.2.2.2.2.2.2.2.1, τ.2.2.2.2.2.2.2.2.2.1, τ.2.2.2.2.2.2.2.2.2.2.1, τ.2.2.2.2.2.2.2.2.2.2.2.1, τ.2.2.2.2.2.2.2.2.2.2.2.2.1, τ.2.2.2.2.2.2.2.2.2.2.2.2.2.1, τ.2.2.2.2.2.2.2.2.2.2.2.2.2.2.1, τ.2.2.2.2.2.2.2.2.2.2.2.2.2.2.2.1, τ.2.2.2.2.2.2.2.2.2.2.2.2.2.2.2.2.1, τ.2.2.2.2.2.2.2.2.2.2.2.2.2.2.2.2.2.1, τ.2.2.2.2.2.2.2.2.2.2.2.2.2.2.2.2.2.2.1, τ.2.2.2.2.2.2.2.2.2.2.2.2.2.2.2.2.2.2.2.1, τ.2.2.2.2.2.2.2.2.2.2.2.2.2.2.2.2.2.2.2.2.1, τ.2.2.2.2.2.2.2.2.2.2.2.2.2.2.2.2.2.2.2.2.2.1, τ.2.2.2.2.2.2.2.2.2.2.2.2.2.2.2.2.2.2.2.2.2.2.1, τ.2.2.2.2.2.2.2.2.2.2.2.2.2.2.2.2.2.2.2.2.2.2.2.1, τ.2.2.2.2.2.2.2.2.2.2.2.2.2.2.2.2.2.2.2.2.2.2.2.2.1, τ.2.2.2.2.2.2.2.2.2.2.2.2.2.2.2.2.2.2.2.2.2.2.2.2.2.1, τ.2.2.2.2.2.2.2.2.2.2.2.2.2.2.2.2.2.2.2.2.2.2.2.2.2.2)
def s_fresh (τ : MS) (x : Nat → Int64) : MS := (τ.1, τ.2.1, τ.2.2.1, τ.2.2.2.1, τ.2.2.2.2.1, τ.2.2.2.2.2.1, τ.2.2.2.2.2.2.1, x, τ.2.2.2.2.2.2.2.2.1, τ.2.2.2.2.2.2.2.2.2.1, τ.2.2.2.2.2.2.2.2.2.2.1, τ.2.2.2.2.2.2.2.2.2.2.2.1, τ.2.2.2.2.2.2.2.2.2.2.2.2.1, τ.2.2.2.2.2.2.2.2.2.2.2.2.2.1, τ.2.2.2.2.2.2.2.2.2.2.2.2.2.2.1, τ.2.2.2.2.2.2.2.2.2.2.2.2.2.2.2.1, τ.2.2.2.2.2.2.2.2.2.2.2.2.2.2.2.2.1, τ.2.2.2.2.2.2.2.2.2.2.2.2.2.2.2.2.2.1, τ.2.2.2.2.2.2.2.2.2.2.2.2.2.2.2.2.2.2.1, τ.2.2.2.2.2.2.2.2.2.2.2.2.2.2.2.2.2.2.2.1, τ.2.2.2.2.2.2.2.2.2.2.2.2.2.2.2.2.2.2.2.2.1, τ.2.2.2.2.2.2.2.2.2.2.2.2.2.2.2.2.2.2.2.2.2.1, τ.2.2.2.2.2.2.2.2.2.2.2.2.2.2.2.2.2.2.2.2.2.2.1, τ.2.2.2.2.2.2.2.2.2.2.2.2.2.2.2.2.2.2.2.2.2.2.2.1, τ.2.2.2.2.2.2.2.2.2.2.2.2.2.2.2.2.2.2.2.2.2.2.2.2.1, τ.2.2.2.2.2.2.2.2.2.2.2.2.2.2.2.2.2.2.2.2.2.2.2.2.2.1, τ.2.2.2.2.2.2.2.2.2.2.2.2.2.2.2.2.2.2.2.2.2.2.2.2.2.2)
def s_multiple (τ : MS) (x : Nat → Int64) : MS := (τ.1, τ.2.1, τ.2.2.1, τ.2.2.2.1, τ.2.2.2.2.1, τ.2.2.2.2.2.1, τ.2.2.2.2.2.2.1, τ.2.2.2.2.2.2.2.1, x, τ.2.2.2.2.2.2.2.2.2.1, τ.2.2.2.2.2.2.2.2.2.2.1, τ.2.2.2.2.2.2.2.2.2.2.2.1, τ.2.2.2.2.2.2.2.2.2.2.2.2.1, τ.2.2.2.2.2.2.2.2.2.2.2.2.2.1, τ.2.2.2.2.2.2.2.2.2.2.2.2.2.2.1, τ.2.2.2.2.2.2.2.2.2.2.2.2.2.2.2.1, τ.2.2.2.2.2.2.2.2.2.2.2.2.2.2.2.2.1, τ.2.2.2.2.2.2.2.2.2.2.2.2.2.2.2.2.2.1, τ.2.2.2.2.2.2.2.2.2.2.2.2.2.2.2.2.2.2.1, τ.2.2.2.2.2.2.2.2.2.2.2.2.2.2.2.2.2.2.2.1, τ.2.2.2.2.2.2.2.2.2.2.2.2.2.2.2.2.2.2.2.2.1, τ.2.2.2.2.2.2.2.2.2.2.2.2.2.2.2.2.2.2.2.2.2.1, τ.2.2.2.2.2.2.2.2.2.2.2.2.2.2.2.2.2.2.2.2.2.2.1, τ.2.2.2.2.2.2.2.2.2.2.2.2.2.2.2.2.2.2.2.2.2.2.2.1, τ.2.2.2.2.2.2.2.2.2.2.2.2.2.2.2.2.2.2.2.2.2.2.2.2.1, τ.2.2.2.2.2.2.2.2.2.2.2.2.2.2.2.2.2.2.2.2.2.2.2.2.2.1, τ.2.2.2.2.2.2.2.2.2.2.2.2.2.2.2.2.2.2.2.2.2.2.2.2.2.2)
def s_last (τ : MS) (x : Nat → Int64) : MS := (τ.1, τ.2.1, τ.2.2.1, τ.2.2.2.1, τ.2.2.2.2.1, τ.2.2.2.2.2.1, τ.2.2.2.2.2.2.1, τ.2.2.2.2.2.2.2.1, τ.2.2.2.2.2.2.2.2.1, x, τ.2.2.2.2.2.2.2.2.2.2.1, τ.2.2.2.2.2.2.2.2.2.2.2.1, τ.2.2.2.2.2.2.2.2.2.2.2.2.1, τ.2.2.2.2.2.2.2.2.2.2.2.2.2.1, τ.2.2.2.2.2.2.2.2.2.2.2.2.2.2.1, τ.2.2.2.2.2.2.2.2.2.2.2.2.2.2.2.1, τ.2.2.2.2.2.2.2.2.2.2.2.2.2.2.2.2.1, τ.2.2.2.2.2.2.2.2.2.2.2.2.2.2.2.2.2.1, τ.2.2.2.2.2.2.2.2.2.2.2.2.2.2.2.2.2.2.1, τ.2.2.2.2.2.2.2.2.2.2.2.2.2.2.2.2.2.2.2.1, τ.2.2.2.2.2.2.2.2.2.2.2.2.2.2.2.2.2.2.2.2.1, τ.2.2.2.2.2.2.2.2.2.2.2.2.2.2.2.2.2.2.2.2.2.1, τ.2.2.2.2.2.2.2.2.2.2.2.2.2.2.2.2.2.2.2.2.2.2.1, τ.2.2.2.2.2.2.2.2.2.2.2.2.2.2.2.2.2.2.2.2.2.2.2.1, τ.2.2.2.2.2.2.2.2.2.2.2.2.2.2.2.2.2.2.2.2.2.2.2.2.1, τ.2.2.2.2.2.2.2.2.2.2.2.2.2.2.2.2.2.2.2.2.2.2.2.2.2.1, τ.2.2.2.2.2.2.2.2.2.2.2.2.2.2.2.2.2.2.2.2.2.2.2.2.2.2)
def s_made (τ : MS) (x : Nat → Int64) : MS := (τ.1, τ.2.1, τ.2.2.1, τ.2.2.2.1, τ.2.2.2.2.1, τ.2.2.2.2.2.1, τ.2.2.2.2.2.2.1, τ.2.2.2.2.2.2.2.1, τ.2.2.2.2.2.2.2.2.1, τ.2.2.2.2.2.2.2.2.2.1, x, τ.2.2.2.2.2.2.2.2.2.2.2.1, τ.2.2.2.2.2.2.2.2.2.2.2.2.1, τ.2.2.2.2.2.2.2.2.2.2.2.2.2.1, τ.2.2.2.2.2.2.2.2.2.2.2.2.2.2.1, τ.2.2.2.2.2.2.2.2.2.2.2.2.2.2.2.1, τ.2.2.2.2.2.2.2.2.2.2.2.2.2.2.2.2.1, τ.2.2.2.2.2.2.2.2.2.2.2.2.2.2.2.2.2.1, τ.2.2.2.2.2.2.2.2.2.2.2.2.2.2.2.2.2.2.1, τ.2.2.2.2.2.2.2.2.2.2.2.2.2.2.2.2.2.2.2.1, τ.2.2.2.2.2.2.2.2.2.2.2.2.2.2.2.2.2.2.2.2.1, τ.2.2.2.2.2.2.2.2.2.2.2.2.2.2.2.2.2.2.2.2.2.1, τ.2.2.2.2.2.2.2.2.2.2.2.2.2.2.2.2.2.2.2.2.2.2.1, τ.2.2.2.2.2.2.2.2.2.2.2.2.2.2.2.2.2.2.2.2.2.2.2.1, τ.2.2.2.2.2.2.2.2.2.2.2.2.2.2.2.2.2.2.2.2.2.2.2.2.1, τ.2.2.2.2.2.2.2.2.2.2.2.2.2.2.2.2.2.2.2.2.2.2.2.2.2.1, τ.2.2.2.2.2.2.2.2.2.2.2.2.2.2.2.2.2.2.2.2.2.2.2.2.2.2)
def s_settled (τ : MS) (x : Nat → Int64) : MS := (τ.1, τ.2.1, τ.2.2.1, τ.2.2.2.1, τ.2.2.2.2.1, τ.2.2.2.2.2.1, τ.2.2.2.2.2.2.1, τ.2.2.2.2.2.2.2.1, τ.2.2.2.2.2.2.2.2.1, τ.2.2.2.2.2.2.2.2.2.1, τ.2.2.2.2.2.2.2.2.2.2.1, x, τ.2.2.2.2.2.2.2.2.2.2.2.2.1, τ.2.2.2.2.2.2.2.2.2.2.2.2.2.1, τ.2.2.2.2.2.2.2.2.2.2.2.2.2.2.1, τ.2.2.2.2.2.2.2.2.2.2.2.2.2.2.2.1, τ.2.2.2.2.2.2.2.2.2.2.2.2.2.2.2.2.1, τ.2.2.2.2.2.2.2.2.2.2.2.2.2.2.2.2.2.1, τ.2.2.2.2.2.2.2.2.2.2.2.2.2.2.2.2.2.2.1, τ.2.2.2.2.2.2.2.2.2.2.2.2.2.2.2.2.2.2.2.1, τ.2.2.2.2.2.2.2.2.2.2.2.2.2.2.2.2.2.2.2.2.1, τ.2.2.2.2.2.2.2.2.2.2.2.2.2.2.2.2.2.2.2.2.2.1, τ.2.2.2.2.2.2.2.2.2.2.2.2.2.2.2.2.2.2.2.2.2.2.1, τ.2.2.2.2.2.2.2.2.2.2.2.2.2.2.2.2.2.2.2.2.2.2.2.1, τ.2.2.2.2.2.2.2.2.2.2.2.2.2.2.2.2.2.2.2.2.2.2.2.2.1, τ.2.2.2.2.2.2.2.2.2.2.2.2.2.2.2.2.2.2.2.2.2.2.2.2.2.1, τ.2.2.2.2.2.2.2.2.2.2.2.2.2.2.2.2.2.2.2.2.2.2.2.2.2.2)
def s_point (τ : MS) (x : Nat → Int64) : MS := (τ.1, τ.2.1, τ.2.2.1, τ.2.2.2.1, τ.2.2.2.2.1, τ.2.2.2.2.2.1, τ.2.2.2.2.2.2.1, τ.2.2.2.2.2.2.2.1, τ.2.2.2.2.2.2.2.2.1, τ.2.2.2.2.2.2.2.2.2.1, τ.2.2.2.2.2.2.2.2.2.2.1, τ.2.2.2.2.2.2.2.2.2.2.2.1, x, τ.2.2.2.2.2.2.2.2.2.2.2.2.2.1, τ.2.2.2.2.2.2.2.2.2.2.2.2.2.2.1, τ.2.2.2.2.2.2.2.2.2.2.2.2.2.2.2.1, τ.2.2.2.2.2.2.2.2.2.2.2.2.2.2.2.2.1, τ.2.2.2.2.2.2.2.2.2.2.2.2.2.2.2.2.2.1, τ.2.2.2.2.2.2.2.2.2.2.2.2.2.2.2.2.2.2.1, τ.2.2.2.2.2.2.2.2.2.2.2.2.2.2.2.2.2.2.2.1, τ.2.2.2.2.2.2.2.2.2.2.2.2.2.2.2.2.2.2.2.2.1, τ.2.2.2.2.2.2.2.2.2.2.2.2.2.2.2.2.2.2.2.2.2.1, τ.2.2.2.2.2.2.2.2.2.2.2.2.2.2.2.2.2.2.2.2.2.2.1, τ.2.2.2.2.2.2.2.2.2.2.2.2.2.2.2.2.2.2.2.2.2.2.2.1, τ.2.2.2.2.2.2.2.2.2.2.2.2.2.2.2.2.2.2.2.2.2.2.2.2.1, τ.2.2.2.2.2.2.2.2.2.2.2.2.2.2.2.2.2.2.2.2.2.2.2.2.2.1, τ.2.2.2.2.2.2.2.2.2.2.2.2.2.2.2.2.2.2.2.2.2.2.2.2.2.2)
def s_limit (τ : MS) (x : Int64) : MS := (τ.1, τ.2.1, τ.2.2.1, τ.2.2.2.1, τ.2.2.2.2.1, τ.2.2.2.2.2.1, τ.2.2.2.2.2.2.1, τ.2.2.2.2.2.2.2.1, τ.2.2.2.2.2.2.2.2.1, τ.2.2.2.2.2.2.2.2.2.1, τ.2.2.2.2.2.2.2.2.2.2.1, τ.2.2.2.2.2.2.2.2.2.2.2.1, τ.2.2.2.2.2.2.2.2.2.2.2.2.1, x, τ.2.2.2.2.2.2.2.2.2.2.2.2.2.2.1, τ.2.2.2.2.2.2.2.2.2.2.2.2.2.2.2.1, τ.2.2.2.2.2.2.2.2.2.2.2.2.2.2.2.2.1, τ.2.2.2.2.2.2.2.2.2.2.2.2.2.2.2.2.2.1, τ.2.2.2.2.2.2.2.2.2.2.2.2.2.2.2.2.2.2.1, τ.2.2.2.2.2.2.2.2.2.2.2.2.2.2.2.2.2.2.2.1, τ.2.2.2.2.2.2.2.2.2.2.2.2.2.2.2.2.2.2.2.2.1, τ.2.2.2.2.2.2.2.2.2.2.2.2.2.2.2.2.2.2.2.2.2.1, τ.2.2.2.2.2.2.2.2.2.2.2.2.2.2.2.2.2.2.2.2.2.2.1, τ.2.2.2.2.2.2.2.2.2.2.2.2.2.2.2.2.2.2.2.2.2.2.2.1, τ.2.2.2.2.2.2.2.2.2.2.2.2.2.2.2.2.2.2.2.2.2.2.2.2.1, τ.2.2.2.2.2.2.2.2.2.2.2.2.2.2.2.2.2.2.2.2.2.2.2.2.2.1, τ.2.2.2.2.2.2.2.2.2.2.2.2.2.2.2.2.2.2.2.2.2.2.2.2.2.2)
def s_mode (τ : MS) (x : Int32) : MS := (τ.1, τ.2.1, τ.2.2.1, τ.2.2.2.1, τ.2.2.2.2.1, τ.2.2.2.2.2.1, τ.2.2.2.2.2.2.1, τ.2.2.2.2.2.2.2.1, τ.2.2.2.2.2.2.2.2.1, τ.2.2.2.2.2.2.2.2.2.1, τ.2.2.2.2.2.2.2.2.2.2.1, τ.2.2.2.2.2.2.2.2.2.2.2.1, τ.2.2.2.2.2.2.2.2.2.2.2.2.1, τ.2.2.2.2.2.2.2.2.2.2.2.2.2.1, x, τ.2.2.2.2.2.2.2.2.2.2.2.2.2.2.2.1, τ.2.2.2.2.2.2.2.2.2.2.2.2.2.2.2.2.1, τ.2.2.2.2.2.2.2.2.2.2.2.2.2.2.2.2.2.1, τ.2.2.2.2.2.2.2.2.2.2.2.2.2.2.2.2.2.2.1, τ.2.2.2.2.2.2.2.2.2.2.2.2.2.2.2.2.2.2.2.1, τ.2.2.2.2.2.2.2.2.2.2.2.2.2.2.2.2.2.2.2.2.1, τ.2.2.2.2.2.2.2.2.2.2.2.2.2.2.2.2.2.2.2.2.2.1, τ.2.2.2.2.2.2.2.2.2.2.2.2.2.2.2.2.2.2.2.2.2.2.1, τ.2.2.2.2.2.2.2.2.2.2.2.2.2.2.2.2.2.2.2.2.2.2.2.1, τ.2.2.2.2.2.2.2.2.2.2.2.2.2.2.2.2.2.2.2.2.2.2.2.2.1, τ.2.2.2.2.2.2.2.2.2.2.2.2.2.2.2.2.2.2.2.2.2.2.2.2.2.1, τ.2.2.2.2.2.2.2.2.2.2.2.2.2.2.2.2.2.2.2.2.2.2.2.2.2.2)
def s_counted (τ : MS) (x : Int32) : MS := (τ.1, τ.2.1, τ.2.2.1, τ.2.2.2.1, τ.2.2.2.2.1, τ.2.2.2.2.2.1, τ.2.2.2.2.2.2.1, τ.2.2.2.2.2.2.2.1, τ.2.2.2.2.2.2.2.2.1, τ.2.2.2.2.2.2.2.2.2.1, τ.2.2.2.2.2.2.2.2.2.2.1, τ.2.2.2.2.2.2.2.2.2.2.2.1, τ.2.2.2.2.2.2.2.2.2.2.2.2.1, τ.2.2.2.2.2.2.2.2.2.2.2.2.2.1, τ.2.2.2.2.2.2.2.2.2.2.2.2.2.2.1, x, τ.2.2.2.2.2.2.2.2.2.2.2.2.2.2.2.2.1, τ.2.2.2.2.2.2.2.2.2.2.2.2.2.2.2.2.2.1, τ.2.2.2.2.2.2.2.2.2.2.2.2.2.2.2.2.2.2.1, τ.2.2.2.2.2.2.2.2.2.2.2.2.2.2.2.2.2.2.2.1, τ.2.2.2.2.2.2.2.2.2.2.2.2.2.2.2.2.2.2.2.2.1, τ.2.2.2.2.2.2.2.2.2.2.2.2.2.2.2.2.2.2.2.2.2.1, τ.2.2.2.2.2.2.2.2.2.2.2.2.2.2.2.2.2.2.2.2.2.2.1, τ.2.2.2.2.2.2.2.2.2.2.2.2.2.2.2.2.2.2.2.2.2.2.2.1, τ.2.2.2.2.2.2.2.2.2.2.2.2.2.2.2.2.2.2.2.2.2.2.2.2.1, τ.2.2.2.2.2.2.2.2.2.2.2.2.2.2.2.2.2.2.2.2.2.2.2.2.2.1, τ.2.2.2.2.2.2.2.2.2.2.2.2.2.2.2.2.2.2.2.2.2.2.2.2.2.2)
def s_listed (τ : MS) (x : Int32) : MS := (τ.1, τ.2.1, τ.2.2.1, τ.2.2.2.1, τ.2.2.2.2.1, τ.2.2.2.2.2.1, τ.2.2.2.2.2.2.1, τ.2.2.2.2.2.2.2.1, τ.2.2.2.2.2.2.2.2.1, τ.2.2.2.2.2.2.2.2.2.1, τ.2.2.2.2.2.2.2.2.2.2.1, τ.2.2.2.2.2.2.2.2.2.2.2.1, τ.2.2.2.2.2.2.2.2.2.2.2.2.1, τ.2.2.2.2.2.2.2.2.2.2.2.2.2.1, τ.2.2.2.2.2.2.2.2.2.2.2.2.2.2.1, τ.2.2.2.2.2.2.2.2.2.2.2.2.2.2.2.1, x, τ.2.2.2.2.2.2.2.2.2.2.2.2.2.2.2.2.2.1, τ.2.2.2.2.2.2.2.2.2.2.2.2.2.2.2.2.2.2.1, τ.2.2.2.2.2.2.2.2.2.2.2.2.2.2.2.2.2.2.2.1, τ.2.2.2.2.2.2.2.2.2.2.2.2.2.2.2.2.2.2.2.2.1, τ.2.2.2.2.2.2.2.2.2.2.2.2.2.2.2.2.2.2.2.2.2.1, τ.2.2.2.2.2.2.2.2.2.2.2.2.2.2.2.2.2.2.2.2.2.2.1, τ.2.2.2.2.2.2.2.2.2.2.2.2.2.2.2.2.2.2.2.2.2.2.2.1, τ.2.2.2.2.2.2.2.2.2.2.2.2.2.2.2.2.2.2.2.2.2.2.2.2.1, τ.2.2.2.2.2.2.2.2.2.2.2.2.2.2.2.2.2.2.2.2.2.2.2.2.2.1, τ.2.2.2.2.2.2.2.2.2.2.2.2.2.2.2.2.2.2.2.2.2.2.2.2.2.2)
def s_held (τ : MS) (x : Int32) : MS := (τ.1, τ.2.1, τ.2.2.1, τ.2.2.2.1, τ.2.2.2.2.1, τ.2.2.2.2.2.1, τ.2.2.2.2.2.2.1, τ.2.2.2.2.2.2.2.1, τ.2.2.2.2.2.2.2.2.1, τ.2.2.2.2.2.2.2.2.2.1, τ.2.2.2.2.2.2.2.2.2.2.1, τ.2.2.2.2.2.2.2.2.2.2.2.1, τ.2.2.2.2.2.2.2.2.2.2.2.2.1, τ.2.2.2.2.2.2.2.2.2.2.2.2.2.1, τ.2.2.2.2.2.2.2.2.2.2.2.2.2.2.1, τ.2.2.2.2.2.2.2.2.2.2.2.2.2.2.2.1, τ.2.2.2.2.2.2.2.2.2.2.2.2.2.2.2.2.1, x, τ.2.2.2.2.2.2.2.2.2.2.2.2.2.2.2.2.2.2.1, τ.2.2.2.2.2.2.2.2.2.2.2.2.2.2.2.2.2.2.2.1, τ.2.2.2.2.2.2.2.2.2.2.2.2.2.2.2.2.2.2.2.2.1, τ.2.2.2.2.2.2.2.2.2.2.2.2.2.2.2.2.2.2.2.2.2.1, τ.2.2.2.2.2.2.2.2.2.2.2.2.2.2.2.2.2.2.2.2.2.2.1, τ.2.2.2.2.2.2.2.2.2.2.2.2.2.2.2.2.2.2.2.2.2.2.2.1, τ.2.2.2.2.2.2.2.2.2.2.2.2.2.2.2.2.2.2.2.2.2.2.2.2.1, τ.2.2.2.2.2.2.2.2.2.2.2.2.2.2.2.2.2.2.2.2.2.2.2.2.2.1, τ.2.2.2.2.2.2.2.2.2.2.2.2.2.2.2.2.2.2.2.2.2.2.2.2.2.2)
def s_first (τ : MS) (x : Nat → Int64) : MS := (τ.1, τ.2.1, τ.2.2.1, τ.2.2.2.1, τ.2.2.2.2.1, τ.2.2.2.2.2.1, τ.2.2.2.2.2.2.1, τ.2.2.2.2.2.2.2.1, τ.2.2.2.2.2.2.2.2.1, τ.2.2.2.2.2.2.2.2.2.1, τ.2.2.2.2.2.2.2.2.2.2.1, τ.2.2.2.2.2.2.2.2.2.2.2.1, τ.2.2.2.2.2.2.2.2.2.2.2.2.1, τ.2.2.2.2.2.2.2.2.2.2.2.2.2.1, τ.2.2.2.2.2.2.2.2.2.2.2.2.2.2.1, τ.2.2.2.2.2.2.2.2.2.2.2.2.2.2.2.1, τ.2.2.2.2.2.2.2.2.2.2.2.2.2.2.2.2.1, τ.2.2.2.2.2.2.2.2.2.2.2.2.2.2.2.2.2.1, x, τ.2.2.2.2.2.2.2.2.2.2.2.2.2.2.2.2.2.2.2.1, τ.2.2.2.2.2.2.2.2.2.2.2.2.2.2.2.2.2.2.2.2.1, τ.2.2.2.2.2.2.2.2.2.2.2.2.2.2.2.2.2.2.2.2.2.1, τ.2.2.2.2.2.2.2.2.2.2.2.2.2.2.2.2.2.2.2.2.2.2.1, τ.2.2.2.2.2.2.2.2.2.2.2.2.2.2.2.2.2.2.2.2.2.2.2.1, τ.2.2.2.2.2.2.2.2.2.2.2.2.2.2.2.2.2.2.2.2.2.2.2.2.1, τ.2.2.2.2.2.2.2.2.2.2.2.2.2.2.2.2.2.2.2.2.2.2.2.2.2.1, τ.2.2.2.2.2.2.2.2.2.2.2.2.2.2.2.2.2.2.2.2.2.2.2.2.2.2)
def s_squares (τ : MS) (x : Nat → Int64) : MS := (τ.1, τ.2.1, τ.2.2.1, τ.2.2.2.1, τ.2.2.2.2.1, τ.2.2.2.2.2.1, τ.2.2.2.2.2.2.1, τ.2.2.2.2.2.2.2.1, τ.2.2.2.2.2.2.2.2.1, τ.2.2.2.2.2.2.2.2.2.1, τ.2.2.2.2.2.2.2.2.2.2.1, τ.2.2.2.2.2.2.2.2.2.2.2.1, τ.2.2.2.2.2.2.2.2.2.2.2.2.1, τ.2.2.2.2.2.2.2.2.2.2.2.2.2.1, τ.2.2.2.2.2.2.2.2.2.2.2.2.2.2.1, τ.2.2.2.2.2.2.2.2.2.2.2.2.2.2.2.1, τ.2.2.2.2.2.2.2.2.2.2.2.2.2.2.2.2.1, τ.2.2.2.2.2.2.2.2.2.2.2.2.2.2.2.2.2.1, τ.2.2.2.2.2.2.2.2.2.2.2.2.2.2.2.2.2.2.1, x, τ.2.2.2.2.2.2.2.2.2.2.2.2.2.2.2.2.2.2.2.2.1, τ.2.2.2.2.2.2.2.2.2.2.2.2.2.2.2.2.2.2.2.2.2.1, τ.2.2.2.2.2.2.2.2.2.2.2.2.2.2.2.2.2.2.2.2.2.2.1, τ.2.2.2.2.2.2.2.2.2.2.2.2.2.2.2.2.2.2.2.2.2.2.2.1, τ.2.2.2.2.2.2.2.2.2.2.2.2.2.2.2.2.2.2.2.2.2.2.2.2.1, τ.2.2.2.2.2.2.2.2.2.2.2.2.2.2.2.2.2.2.2.2.2.2.2.2.2.1, τ.2.2.2.2.2.2.2.2.2.2.2.2.2.2.2.2.2.2.2.2.2.2.2.2.2.2)
def s_wanted (τ : MS) (x : Int32) : MS := (τ.1, τ.2.1, τ.2.2.1, τ.2.2.2.1, τ.2.2.2.2.1, τ.2.2.2.2.2.1, τ.2.2.2.2.2.2.1, τ.2.2.2.2.2.2.2.1, τ.2.2.2.2.2.2.2.2.1, τ.2.2.2.2.2.2.2.2.2.1, τ.2.2.2.2.2.2.2.2.2.2.1, τ.2.2.2.2.2.2.2.2.2.2.2.1, τ.2.2.2.2.2.2.2.2.2.2.2.2.1, τ.2.2.2.2.2.2.2.2.2.2.2.2.2.1, τ.2.2.2.2.2.2.2.2.2.2.2.2.2.2.1, τ.2.2.2.2.2.2.2.2.2.2.2.2.2.2.2.1, τ.2.2.2.2.2.2.2.2.2.2.2.2.2.2.2.2.1, τ.2.2.2.2.2.2.2.2.2.2.2.2.2.2.2.2.2.1, τ.2.2.2.2.2.2.2.2.2.2.2.2.2.2.2.2.2.2.1, τ.2.2.2.2.2.2.2.2.2.2.2.2.2.2.2.2.2.2.2.1, x, τ.2.2.2.2.2.2.2.2.2.2.2.2.2.2.2.2.2.2.2.2.2.1, τ.2.2.2.2.2.2.2.2.2.2.2.2.2.2.2.2.2.2.2.2.2.2.1, τ.2.2.2.2.2.2.2.2.2.2.2.2.2.2.2.2.2.2.2.2.2.2.2.1, τ.2.2.2.2.2.2.2.2.2.2.2.2.2.2.2.2.2.2.2.2.2.2.2.2.1, τ.2.2.2.2.2.2.2.2.2.2.2.2.2.2.2.2.2.2.2.2.2.2.2.2.2.1, τ.2.2.2.2.2.2.2.2.2.2.2.2.2.2.2.2.2.2.2.2.2.2.2.2.2.2)
def s_spanned (τ : MS) (x : Int32) : MS := (τ.1, τ.2.1, τ.2.2.1, τ.2.2.2.1, τ.2.2.2.2.1, τ.2.2.2.2.2.1, τ.2.2.2.2.2.2.1, τ.2.2.2.2.2.2.2.1, τ.2.2.2.2.2.2.2.2.1, τ.2.2.2.2.2.2.2.2.2.1, τ.2.2.2.2.2.2.2.2.2.2.1, τ.2.2.2.2.2.2.2.2.2.2.2.1, τ.2.2.2.2.2.2.2.2.2.2.2.2.1, τ.2.2.2.2.2.2.2.2.2.2.2.2.2.1, τ.2.2.2.2.2.2.2.2.2.2.2.2.2.2.1, τ.2.2.2.2.2.2.2.2.2.2.2.2.2.2.2.1, τ.2.2.2.2.2.2.2.2.2.2.2.2.2.2.2.2.1, τ.2.2.2.2.2.2.2.2.2.2.2.2.2.2.2.2.2.1, τ.2.2.2.2.2.2.2.2.2.2.2.2.2.2.2.2.2.2.1, τ.2.2.2.2.2.2.2.2.2.2.2.2.2.2.2.2.2.2.2.1, τ.2.2.2.2.2.2.2.2.2.2.2.2.2.2.2.2.2.2.2.2.1, x, τ.2.2.2.2.2.2.2.2.2.2.2.2.2.2.2.2.2.2.2.2.2.2.1, τ.2.2.2.2.2.2.2.2.2.2.2.2.2.2.2.2.2.2.2.2.2.2.2.1, τ.2.2.2.2.2.2.2.2.2.2.2.2.2.2.2.2.2.2.2.2.2.2.2.2.1, τ.2.2.2.2.2.2.2.2.2.2.2.2.2.2.2.2.2.2.2.2.2.2.2.2.2.1, τ.2.2.2.2.2.2.2.2.2.2.2.2.2.2.2.2.2.2.2.2.2.2.2.2.2.2)
def s_span (τ : MS) (x : Nat → Int64) : MS := (τ.1, τ.2.1, τ.2.2.1, τ.2.2.2.1, τ.2.2.2.2.1, τ.2.2.2.2.2.1, τ.2.2.2.2.2.2.1, τ.2.2.2.2.2.2.2.1, τ.2.2.2.2.2.2.2.2.1, τ.2.2.2.2.2.2.2.2.2.1, τ.2.2.2.2.2.2.2.2.2.2.1, τ.2.2.2.2.2.2.2.2.2.2.2.1, τ.2.2.2.2.2.2.2.2.2.2.2.2.1, τ.2.2.2.2.2.2.2.2.2.2.2.2.2.1, τ.2.2.2.2.2.2.2.2.2.2.2.2.2.2.1, τ.2.2.2.2.2.2.2.2.2.2.2.2.2.2.2.1, τ.2.2.2.2.2.2.2.2.2.2.2.2.2.2.2.2.1, τ.2.2.2.2.2.2.2.2.2.2.2.2.2.2.2.2.2.1, τ.2.2.2.2.2.2.2.2.2.2.2.2.2.2.2.2.2.2.1, τ.2.2.2.2.2.2.2.2.2.2.2.2.2.2.2.2.2.2.2.1, τ.2.2.2.2.2.2.2.2.2.2.2.2.2.2.2.2.2.2.2.2.1, τ.2.2.2.2.2.2.2.2.2.2.2.2.2.2.2.2.2.2.2.2.2.1, x, τ.2.2.2.2.2.2.2.2.2.2.2.2.2.2.2.2.2.2.2.2.2.2.2.1, τ.2.2.2.2.2.2.2.2.2.2.2.2.2.2.2.2.2.2.2.2.2.2.2.2.1, τ.2.2.2.2.2.2.2.2.2.2.2.2.2.2.2.2.2.2.2.2.2.2.2.2.2.1, τ.2.2.2.2.2.2.2.2.2.2.2.2.2.2.2.2.2.2.2.2.2.2.2.2.2.2)
def s_minima (τ : MS) (x : Nat → Int32) : MS := (τ.1, τ.2.1, τ.2.2.1, τ.2.2.2.1, τ.2.2.2.2.1, τ.2.2.2.2.2.1, τ.2.2.2.2.2.2.1, τ.2.2.2.2.2.2.2.1, τ.2.2.2.2.2.2.2.2.1, τ.2.2.2.2.2.2.2.2.2.1, τ.2.2.2.2.2.2.2.2.2.2.1, τ.2.2.2.2.2.2.2.2.2.2.2.1, τ.2.2.2.2.2.2.2.2.2.2.2.2.1, τ.2.2.2.2.2.2.2.2.2.2.2.2.2.1, τ.2.2.2.2.2.2.2.2.2.2.2.2.2.2.1, τ.2.2.2.2.2.2.2.2.2.2.2.2.2.2.2.1, τ.2.2.2.2.2.2.2.2.2.2.2.2.2.2.2.2.1, τ.2.2.2.2.2.2.2.2.2.2.2.2.2.2.2.2.2.1, τ.2.2.2.2.2.2.2.2.2.2.2.2.2.2.2.2.2.2.1, τ.2.2.2.2.2.2.2.2.2.2.2.2.2.2.2.2.2.2.2.1, τ.2.2.2.2.2.2.2.2.2.2.2.2.2.2.2.2.2.2.2.2.1, τ.2.2.2.2.2.2.2.2.2.2.2.2.2.2.2.2.2.2.2.2.2.1, τ.2.2.2.2.2.2.2.2.2.2.2.2.2.2.2.2.2.2.2.2.2.2.1, x, τ.2.2.2.2.2.2.2.2.2.2.2.2.2.2.2.2.2.2.2.2.2.2.2.2.1, τ.2.2.2.2.2.2.2.2.2.2.2.2.2.2.2.2.2.2.2.2.2.2.2.2.2.1, τ.2.2.2.2.2.2.2.2.2.2.2.2.2.2.2.2.2.2.2.2.2.2.2.2.2.2)
def s_measured (τ : MS) (x : Int32) : MS := (τ.1, τ.2.1, τ.2.2.1, τ.2.2.2.1, τ.2.2.2.2.1, τ.2.2.2.2.2.1, τ.2.2.2.2.2.2.1, τ.2.2.2.2.2.2.2.1, τ.2.2.2.2.2.2.2.2.1, τ.2.2.2.2.2.2.2.2.2.1, τ.2.2.2.2.2.2.2.2.2.2.1, τ.2.2.2.2.2.2.2.2.2.2.2.1, τ.2.2.2.2.2.2.2.2.2.2.2.2.1, τ.2.2.2.2.2.2.2.2.2.2.2.2.2.1, τ.2.2.2.2.2.2.2.2.2.2.2.2.2.2.1, τ.2.2.2.2.2.2.2.2.2.2.2.2.2.2.2.1, τ.2.2.2.2.2.2.2.2.2.2.2.2.2.2.2.2.1, τ.2.2.2.2.2.2.2.2.2.2.2.2.2.2.2.2.2.1, τ.2.2.2.2.2.2.2.2.2.2.2.2.2.2.2.2.2.2.1, τ.2.2.2.2.2.2.2.2.2.2.2.2.2.2.2.2.2.2.2.1, τ.2.2.2.2.2.2.2.2.2.2.2.2.2.2.2.2.2.2.2.2.1, τ.2.2.2.2.2.2.2.2.2.2.2.2.2.2.2.2.2.2.2.2.2.1, τ.2.2.2.2.2.2.2.2.2.2.2.2.2.2.2.2.2.2.2.2.2.2.1, τ.2.2.2.2.2.2.2.2.2.2.2.2.2.2.2.2.2.2.2.2.2.2.2.1, x, τ.2.2.2.2.2.2.2.2.2.2.2.2.2.2.2.2.2.2.2.2.2.2.2.2.2.1, τ.2.2.2.2.2.2.2.2.2.2.2.2.2.2.2.2.2.2.2.2.2.2.2.2.2.2)
def s_found (τ : MS) (x : Nat → Int64) : MS := (τ.1, τ.2.1, τ.2.2.1, τ.2.2.2.1, τ.2.2.2.2.1, τ.2.2.2.2.2.1, τ.2.2.2.2.2.2.1, τ.2.2.2.2.2.2.2.1, τ.2.2.2.2.2.2.2.2.1, τ.2.2.2.2.2.2.2.2.2.1, τ.2.2.2.2.2.2.2.2.2.2.1, τ.2.2.2.2.2.2.2.2.2.2.2.1, τ.2.2.2.2.2.2.2.2.2.2.2.2.1, τ.2.2.2.2.2.2.2.2.2.2.2.2.2.1, τ.2.2.2.2.2.2.2.2.2.2.2.2.2.2.1, τ.2.2.2.2.2.2.2.2.2.2.2.2.2.2.2.1, τ.2.2.2.2.2.2.2.2.2.2.2.2.2.2.2.2.1, τ.2.2.2.2.2.2.2.2.2.2.2.2.2.2.2.2.2.1, τ.2.2.2.2.2.2.2.2.2.2.2.2.2.2.2.2.2.2.1, τ.2.2.2.2.2.2.2.2.2.2.2.2.2.2.2.2.2.2.2.1, τ.2.2.2.2.2.2.2.2.2.2.2.2.2.2.2.2.2.2.2.2.1, τ.2.2.2.2.2.2.2.2.2.2.2.2.2.2.2.2.2.2.2.2.2.1, τ.2.2.2.2.2.2.2.2.2.2.2.2.2.2.2.2.2.2.2.2.2.2.1, τ.2.2.2.2.2.2.2.2.2.2.2.2.2.2.2.2.2.2.2.2.2.2.2.1, τ.2.2.2.2.2.2.2.2.2.2.2.2.2.2.2.2.2.2.2.2.2.2.2.2.1, x, τ.2.2.2.2.2.2.2.2.2.2.2.2.2.2.2.2.2.2.2.2.2.2.2.2.2.2)
def s_any (τ : MS) (x : Int32) : MS := (τ.1, τ.2.1, τ.2.2.1, τ.2.2.2.1, τ.2.2.2.2.1, τ.2.2.2.2.2.1, τ.2.2.2.2.2.2.1, τ.2.2.2.2.2.2.2.1, τ.2.2.2.2.2.2.2.2.1, τ.2.2.2.2.2.2.2.2.2.1, τ.2.2.2.2.2.2.2.2.2.2.1, τ.2.2.2.2.2.2.2.2.2.2.2.1, τ.2.2.2.2.2.2.2.2.2.2.2.2.1, τ.2.2.2.2.2.2.2.2.2.2.2.2.2.1, τ.2.2.2.2.2.2.2.2.2.2.2.2.2.2.1, τ.2.2.2.2.2.2.2.2.2.2.2.2.2.2.2.1, τ.2.2.2.2.2.2.2.2.2.2.2.2.2.2.2.2.1, τ.2.2.2.2.2.2.2.2.2.2.2.2.2.2.2.2.2.1, τ.2.2.2.2.2.2.2.2.2.2.2.2.2.2.2.2.2.2.1, τ.2.2.2.2.2.2.2.2.2.2.2.2.2.2.2.2.2.2.2.1, τ.2.2.2.2.2.2.2.2.2.2.2.2.2.2.2.2.2.2.2.2.1, τ.2.2.2.2.2.2.2.2.2.2.2.2.2.2.2.2.2.2.2.2.2.1, τ.2.2.2.2.2.2.2.2.2.2.2.2.2.2.2.2.2.2.2.2.2.2.1, τ.2.2.2.2.2.2.2.2.2.2.2.2.2.2.2.2.2.2.2.2.2.2.2.1, τ.2.2.2.2.2.2.2.2.2.2.2.2.2.2.2.2.2.2.2.2.2.2.2.2.1, τ.2.2.2.2.2.2.2.2.2.2.2.2.2.2.2.2.2.2.2.2.2.2.2.2.2.1, x)
def mfl (κ : ctx) (τ : MS) : List Value := [.int (m_many τ), .ref (κ.1 1), .int (m_known τ), .int (m_without τ), .int (m_rows τ), .ref (κ.1 2), .ref (κ.1 3), .ref (κ.1 4), .ref (κ.1 5), .ref (κ.1 6), .ref (κ.1 7), .ref (κ.1 8), .ref (κ.1 9), .long (m_limit τ), .int (m_mode τ), .int (m_counted τ), .int (m_listed τ), .int (m_held τ), .ref (κ.1 10), .ref (κ.1 11), .int (m_wanted τ), .int (m_spanned τ), .ref (κ.1 12), .ref (κ.1 13), .int (m_measured τ), .ref (κ.1 14), .int (m_any τ)]
def LM (κ : ctx) (τ : MS) (X : Nat → va_E) : Nat → va_E := fun k => match k with
  | 0 => .inr (0, mfl κ τ)
  | 1 => .inl (κ.2.1, 24, .inl (m_generator τ))
  | 2 => .inl (κ.2.2.1, 16, .inr (.inl (m_row τ)))
  | 3 => .inl (κ.2.1, 5, .inl (m_pivot τ))
  | 4 => .inl (κ.2.2.1, 4, .inr (.inl (m_fresh τ)))
  | 5 => .inl (κ.2.2.1, 4, .inr (.inl (m_multiple τ)))
  | 6 => .inl (κ.2.2.1, 4, .inr (.inl (m_last τ)))
  | 7 => .inl (κ.2.2.1, 20, .inr (.inl (m_made τ)))
  | 8 => .inl (κ.2.2.1, 5, .inr (.inl (m_settled τ)))
  | 9 => .inl (κ.2.2.1, 4, .inr (.inl (m_point τ)))
  | 10 => .inl (κ.2.2.1, 164, .inr (.inl (m_first τ)))
  | 11 => .inl (κ.2.2.1, 41, .inr (.inl (m_squares τ)))
  | 12 => .inl (κ.2.2.1, 16, .inr (.inl (m_span τ)))
  | 13 => .inl (κ.2.1, 5, .inl (m_minima τ))
  | 14 => .inl (κ.2.2.1, 4, .inr (.inl (m_found τ)))
  | k + 15 => X k
theorem LM_generator (κ : ctx) (τ : MS) (X : Nat → va_E) (f : Nat → Int32) : va_up (LM κ τ X) 1 (.inl (κ.2.1, 24, .inl f)) = LM κ (s_generator τ f) X := funext fun k => match k with
  | 0 => rfl
  | 1 => rfl
  | 2 => rfl
  | 3 => rfl
  | 4 => rfl
  | 5 => rfl
  | 6 => rfl
  | 7 => rfl
  | 8 => rfl
  | 9 => rfl
  | 10 => rfl
  | 11 => rfl
  | 12 => rfl
  | 13 => rfl
  | 14 => rfl
  | k + 15 => if_neg (by omega)
theorem LM_row (κ : ctx) (τ : MS) (X : Nat → va_E) (f : Nat → Int64) : va_up (LM κ τ X) 2 (.inl (κ.2.2.1, 16, .inr (.inl f))) = LM κ (s_row τ f) X := funext fun k => match k with
  | 0 => rfl
  | 1 => rfl
  | 2 => rfl
  | 3 => rfl
  | 4 => rfl
  | 5 => rfl
  | 6 => rfl
  | 7 => rfl
  | 8 => rfl
  | 9 => rfl
  | 10 => rfl
  | 11 => rfl
  | 12 => rfl
  | 13 => rfl
  | 14 => rfl
  | k + 15 => if_neg (by omega)
theorem LM_pivot (κ : ctx) (τ : MS) (X : Nat → va_E) (f : Nat → Int32) : va_up (LM κ τ X) 3 (.inl (κ.2.1, 5, .inl f)) = LM κ (s_pivot τ f) X := funext fun k => match k with
  | 0 => rfl
  | 1 => rfl
  | 2 => rfl
  | 3 => rfl
  | 4 => rfl
  | 5 => rfl
  | 6 => rfl
  | 7 => rfl
  | 8 => rfl
  | 9 => rfl
  | 10 => rfl
  | 11 => rfl
  | 12 => rfl
  | 13 => rfl
  | 14 => rfl
  | k + 15 => if_neg (by omega)
theorem LM_fresh (κ : ctx) (τ : MS) (X : Nat → va_E) (f : Nat → Int64) : va_up (LM κ τ X) 4 (.inl (κ.2.2.1, 4, .inr (.inl f))) = LM κ (s_fresh τ f) X := funext fun k => match k with
  | 0 => rfl
  | 1 => rfl
  | 2 => rfl
  | 3 => rfl
  | 4 => rfl
  | 5 => rfl
  | 6 => rfl
  | 7 => rfl
  | 8 => rfl
  | 9 => rfl
  | 10 => rfl
  | 11 => rfl
  | 12 => rfl
  | 13 => rfl
  | 14 => rfl
  | k + 15 => if_neg (by omega)
theorem LM_multiple (κ : ctx) (τ : MS) (X : Nat → va_E) (f : Nat → Int64) : va_up (LM κ τ X) 5 (.inl (κ.2.2.1, 4, .inr (.inl f))) = LM κ (s_multiple τ f) X := funext fun k => match k with
  | 0 => rfl
  | 1 => rfl
  | 2 => rfl
  | 3 => rfl
  | 4 => rfl
  | 5 => rfl
  | 6 => rfl
  | 7 => rfl
  | 8 => rfl
  | 9 => rfl
  | 10 => rfl
  | 11 => rfl
  | 12 => rfl
  | 13 => rfl
  | 14 => rfl
  | k + 15 => if_neg (by omega)
theorem LM_last (κ : ctx) (τ : MS) (X : Nat → va_E) (f : Nat → Int64) : va_up (LM κ τ X) 6 (.inl (κ.2.2.1, 4, .inr (.inl f))) = LM κ (s_last τ f) X := funext fun k => match k with
  | 0 => rfl
  | 1 => rfl
  | 2 => rfl
  | 3 => rfl
  | 4 => rfl
  | 5 => rfl
  | 6 => rfl
  | 7 => rfl
  | 8 => rfl
  | 9 => rfl
  | 10 => rfl
  | 11 => rfl
  | 12 => rfl
  | 13 => rfl
  | 14 => rfl
  | k + 15 => if_neg (by omega)
theorem LM_made (κ : ctx) (τ : MS) (X : Nat → va_E) (f : Nat → Int64) : va_up (LM κ τ X) 7 (.inl (κ.2.2.1, 20, .inr (.inl f))) = LM κ (s_made τ f) X := funext fun k => match k with
  | 0 => rfl
  | 1 => rfl
  | 2 => rfl
  | 3 => rfl
  | 4 => rfl
  | 5 => rfl
  | 6 => rfl
  | 7 => rfl
  | 8 => rfl
  | 9 => rfl
  | 10 => rfl
  | 11 => rfl
  | 12 => rfl
  | 13 => rfl
  | 14 => rfl
  | k + 15 => if_neg (by omega)
theorem LM_settled (κ : ctx) (τ : MS) (X : Nat → va_E) (f : Nat → Int64) : va_up (LM κ τ X) 8 (.inl (κ.2.2.1, 5, .inr (.inl f))) = LM κ (s_settled τ f) X := funext fun k => match k with
  | 0 => rfl
  | 1 => rfl
  | 2 => rfl
  | 3 => rfl
  | 4 => rfl
  | 5 => rfl
  | 6 => rfl
  | 7 => rfl
  | 8 => rfl
  | 9 => rfl
  | 10 => rfl
  | 11 => rfl
  | 12 => rfl
  | 13 => rfl
  | 14 => rfl
  | k + 15 => if_neg (by omega)
theorem LM_point (κ : ctx) (τ : MS) (X : Nat → va_E) (f : Nat → Int64) : va_up (LM κ τ X) 9 (.inl (κ.2.2.1, 4, .inr (.inl f))) = LM κ (s_point τ f) X := funext fun k => match k with
  | 0 => rfl
  | 1 => rfl
  | 2 => rfl
  | 3 => rfl
  | 4 => rfl
  | 5 => rfl
  | 6 => rfl
  | 7 => rfl
  | 8 => rfl
  | 9 => rfl
  | 10 => rfl
  | 11 => rfl
  | 12 => rfl
  | 13 => rfl
  | 14 => rfl
  | k + 15 => if_neg (by omega)
theorem LM_first (κ : ctx) (τ : MS) (X : Nat → va_E) (f : Nat → Int64) : va_up (LM κ τ X) 10 (.inl (κ.2.2.1, 164, .inr (.inl f))) = LM κ (s_first τ f) X := funext fun k => match k with
  | 0 => rfl
  | 1 => rfl
  | 2 => rfl
  | 3 => rfl
  | 4 => rfl
  | 5 => rfl
  | 6 => rfl
  | 7 => rfl
  | 8 => rfl
  | 9 => rfl
  | 10 => rfl
  | 11 => rfl
  | 12 => rfl
  | 13 => rfl
  | 14 => rfl
  | k + 15 => if_neg (by omega)
theorem LM_squares (κ : ctx) (τ : MS) (X : Nat → va_E) (f : Nat → Int64) : va_up (LM κ τ X) 11 (.inl (κ.2.2.1, 41, .inr (.inl f))) = LM κ (s_squares τ f) X := funext fun k => match k with
  | 0 => rfl
  | 1 => rfl
  | 2 => rfl
  | 3 => rfl
  | 4 => rfl
  | 5 => rfl
  | 6 => rfl
  | 7 => rfl
  | 8 => rfl
  | 9 => rfl
  | 10 => rfl
  | 11 => rfl
  | 12 => rfl
  | 13 => rfl
  | 14 => rfl
  | k + 15 => if_neg (by omega)
theorem LM_span (κ : ctx) (τ : MS) (X : Nat → va_E) (f : Nat → Int64) : va_up (LM κ τ X) 12 (.inl (κ.2.2.1, 16, .inr (.inl f))) = LM κ (s_span τ f) X := funext fun k => match k with
  | 0 => rfl
  | 1 => rfl
  | 2 => rfl
  | 3 => rfl
  | 4 => rfl
  | 5 => rfl
  | 6 => rfl
  | 7 => rfl
  | 8 => rfl
  | 9 => rfl
  | 10 => rfl
  | 11 => rfl
  | 12 => rfl
  | 13 => rfl
  | 14 => rfl
  | k + 15 => if_neg (by omega)
theorem LM_minima (κ : ctx) (τ : MS) (X : Nat → va_E) (f : Nat → Int32) : va_up (LM κ τ X) 13 (.inl (κ.2.1, 5, .inl f)) = LM κ (s_minima τ f) X := funext fun k => match k with
  | 0 => rfl
  | 1 => rfl
  | 2 => rfl
  | 3 => rfl
  | 4 => rfl
  | 5 => rfl
  | 6 => rfl
  | 7 => rfl
  | 8 => rfl
  | 9 => rfl
  | 10 => rfl
  | 11 => rfl
  | 12 => rfl
  | 13 => rfl
  | 14 => rfl
  | k + 15 => if_neg (by omega)
theorem LM_found (κ : ctx) (τ : MS) (X : Nat → va_E) (f : Nat → Int64) : va_up (LM κ τ X) 14 (.inl (κ.2.2.1, 4, .inr (.inl f))) = LM κ (s_found τ f) X := funext fun k => match k with
  | 0 => rfl
  | 1 => rfl
  | 2 => rfl
  | 3 => rfl
  | 4 => rfl
  | 5 => rfl
  | 6 => rfl
  | 7 => rfl
  | 8 => rfl
  | 9 => rfl
  | 10 => rfl
  | 11 => rfl
  | 12 => rfl
  | 13 => rfl
  | 14 => rfl
  | k + 15 => if_neg (by omega)
theorem LMf_many (κ : ctx) (τ : MS) (X : Nat → va_E) (x : Int32) : va_up (LM κ τ X) 0 (.inr (0, (mfl κ τ).set 0 (.int x))) = LM κ (s_many τ x) X := funext fun k => match k with
  | 0 => rfl
  | 1 => rfl
  | 2 => rfl
  | 3 => rfl
  | 4 => rfl
  | 5 => rfl
  | 6 => rfl
  | 7 => rfl
  | 8 => rfl
  | 9 => rfl
  | 10 => rfl
  | 11 => rfl
  | 12 => rfl
  | 13 => rfl
  | 14 => rfl
  | k + 15 => if_neg (by omega)
theorem LMf_known (κ : ctx) (τ : MS) (X : Nat → va_E) (x : Int32) : va_up (LM κ τ X) 0 (.inr (0, (mfl κ τ).set 2 (.int x))) = LM κ (s_known τ x) X := funext fun k => match k with
  | 0 => rfl
  | 1 => rfl
  | 2 => rfl
  | 3 => rfl
  | 4 => rfl
  | 5 => rfl
  | 6 => rfl
  | 7 => rfl
  | 8 => rfl
  | 9 => rfl
  | 10 => rfl
  | 11 => rfl
  | 12 => rfl
  | 13 => rfl
  | 14 => rfl
  | k + 15 => if_neg (by omega)
theorem LMf_without (κ : ctx) (τ : MS) (X : Nat → va_E) (x : Int32) : va_up (LM κ τ X) 0 (.inr (0, (mfl κ τ).set 3 (.int x))) = LM κ (s_without τ x) X := funext fun k => match k with
  | 0 => rfl
  | 1 => rfl
  | 2 => rfl
  | 3 => rfl
  | 4 => rfl
  | 5 => rfl
  | 6 => rfl
  | 7 => rfl
  | 8 => rfl
  | 9 => rfl
  | 10 => rfl
  | 11 => rfl
  | 12 => rfl
  | 13 => rfl
  | 14 => rfl
  | k + 15 => if_neg (by omega)
theorem LMf_rows (κ : ctx) (τ : MS) (X : Nat → va_E) (x : Int32) : va_up (LM κ τ X) 0 (.inr (0, (mfl κ τ).set 4 (.int x))) = LM κ (s_rows τ x) X := funext fun k => match k with
  | 0 => rfl
  | 1 => rfl
  | 2 => rfl
  | 3 => rfl
  | 4 => rfl
  | 5 => rfl
  | 6 => rfl
  | 7 => rfl
  | 8 => rfl
  | 9 => rfl
  | 10 => rfl
  | 11 => rfl
  | 12 => rfl
  | 13 => rfl
  | 14 => rfl
  | k + 15 => if_neg (by omega)
theorem LMf_limit (κ : ctx) (τ : MS) (X : Nat → va_E) (x : Int64) : va_up (LM κ τ X) 0 (.inr (0, (mfl κ τ).set 13 (.long x))) = LM κ (s_limit τ x) X := funext fun k => match k with
  | 0 => rfl
  | 1 => rfl
  | 2 => rfl
  | 3 => rfl
  | 4 => rfl
  | 5 => rfl
  | 6 => rfl
  | 7 => rfl
  | 8 => rfl
  | 9 => rfl
  | 10 => rfl
  | 11 => rfl
  | 12 => rfl
  | 13 => rfl
  | 14 => rfl
  | k + 15 => if_neg (by omega)
theorem LMf_mode (κ : ctx) (τ : MS) (X : Nat → va_E) (x : Int32) : va_up (LM κ τ X) 0 (.inr (0, (mfl κ τ).set 14 (.int x))) = LM κ (s_mode τ x) X := funext fun k => match k with
  | 0 => rfl
  | 1 => rfl
  | 2 => rfl
  | 3 => rfl
  | 4 => rfl
  | 5 => rfl
  | 6 => rfl
  | 7 => rfl
  | 8 => rfl
  | 9 => rfl
  | 10 => rfl
  | 11 => rfl
  | 12 => rfl
  | 13 => rfl
  | 14 => rfl
  | k + 15 => if_neg (by omega)
theorem LMf_counted (κ : ctx) (τ : MS) (X : Nat → va_E) (x : Int32) : va_up (LM κ τ X) 0 (.inr (0, (mfl κ τ).set 15 (.int x))) = LM κ (s_counted τ x) X := funext fun k => match k with
  | 0 => rfl
  | 1 => rfl
  | 2 => rfl
  | 3 => rfl
  | 4 => rfl
  | 5 => rfl
  | 6 => rfl
  | 7 => rfl
  | 8 => rfl
  | 9 => rfl
  | 10 => rfl
  | 11 => rfl
  | 12 => rfl
  | 13 => rfl
  | 14 => rfl
  | k + 15 => if_neg (by omega)
theorem LMf_listed (κ : ctx) (τ : MS) (X : Nat → va_E) (x : Int32) : va_up (LM κ τ X) 0 (.inr (0, (mfl κ τ).set 16 (.int x))) = LM κ (s_listed τ x) X := funext fun k => match k with
  | 0 => rfl
  | 1 => rfl
  | 2 => rfl
  | 3 => rfl
  | 4 => rfl
  | 5 => rfl
  | 6 => rfl
  | 7 => rfl
  | 8 => rfl
  | 9 => rfl
  | 10 => rfl
  | 11 => rfl
  | 12 => rfl
  | 13 => rfl
  | 14 => rfl
  | k + 15 => if_neg (by omega)
theorem LMf_held (κ : ctx) (τ : MS) (X : Nat → va_E) (x : Int32) : va_up (LM κ τ X) 0 (.inr (0, (mfl κ τ).set 17 (.int x))) = LM κ (s_held τ x) X := funext fun k => match k with
  | 0 => rfl
  | 1 => rfl
  | 2 => rfl
  | 3 => rfl
  | 4 => rfl
  | 5 => rfl
  | 6 => rfl
  | 7 => rfl
  | 8 => rfl
  | 9 => rfl
  | 10 => rfl
  | 11 => rfl
  | 12 => rfl
  | 13 => rfl
  | 14 => rfl
  | k + 15 => if_neg (by omega)
theorem LMf_wanted (κ : ctx) (τ : MS) (X : Nat → va_E) (x : Int32) : va_up (LM κ τ X) 0 (.inr (0, (mfl κ τ).set 20 (.int x))) = LM κ (s_wanted τ x) X := funext fun k => match k with
  | 0 => rfl
  | 1 => rfl
  | 2 => rfl
  | 3 => rfl
  | 4 => rfl
  | 5 => rfl
  | 6 => rfl
  | 7 => rfl
  | 8 => rfl
  | 9 => rfl
  | 10 => rfl
  | 11 => rfl
  | 12 => rfl
  | 13 => rfl
  | 14 => rfl
  | k + 15 => if_neg (by omega)
theorem LMf_spanned (κ : ctx) (τ : MS) (X : Nat → va_E) (x : Int32) : va_up (LM κ τ X) 0 (.inr (0, (mfl κ τ).set 21 (.int x))) = LM κ (s_spanned τ x) X := funext fun k => match k with
  | 0 => rfl
  | 1 => rfl
  | 2 => rfl
  | 3 => rfl
  | 4 => rfl
  | 5 => rfl
  | 6 => rfl
  | 7 => rfl
  | 8 => rfl
  | 9 => rfl
  | 10 => rfl
  | 11 => rfl
  | 12 => rfl
  | 13 => rfl
  | 14 => rfl
  | k + 15 => if_neg (by omega)
theorem LMf_measured (κ : ctx) (τ : MS) (X : Nat → va_E) (x : Int32) : va_up (LM κ τ X) 0 (.inr (0, (mfl κ τ).set 24 (.int x))) = LM κ (s_measured τ x) X := funext fun k => match k with
  | 0 => rfl
  | 1 => rfl
  | 2 => rfl
  | 3 => rfl
  | 4 => rfl
  | 5 => rfl
  | 6 => rfl
  | 7 => rfl
  | 8 => rfl
  | 9 => rfl
  | 10 => rfl
  | 11 => rfl
  | 12 => rfl
  | 13 => rfl
  | 14 => rfl
  | k + 15 => if_neg (by omega)
theorem LMf_any (κ : ctx) (τ : MS) (X : Nat → va_E) (x : Int32) : va_up (LM κ τ X) 0 (.inr (0, (mfl κ τ).set 26 (.int x))) = LM κ (s_any τ x) X := funext fun k => match k with
  | 0 => rfl
  | 1 => rfl
  | 2 => rfl
  | 3 => rfl
  | 4 => rfl
  | 5 => rfl
  | 6 => rfl
  | 7 => rfl
  | 8 => rfl
  | 9 => rfl
  | 10 => rfl
  | 11 => rfl
  | 12 => rfl
  | 13 => rfl
  | 14 => rfl
  | k + 15 => if_neg (by omega)
end
section
theorem tsout (x : Int32) (n : Nat) (hn : n < 2 ^ 31) (h : ∀ k : Nat, k ≤ n → ¬ x = nI k) : x.toInt < 0 ∨ (n : Int) < x.toInt := by
  refine Decidable.byContradiction fun q => ?_
  have h1 : 0 ≤ x.toInt := by omega
  have h2 : x.toInt ≤ (n : Int) := by omega
  exact h x.toInt.toNat (by omega) (Int32.toInt_inj.mp (by rw [nI_toInt (by omega)]; omega))
theorem w_tsIn {g : Gm} {κ : ctx} {own : String} {cc : ByteArray} {nL : Nat} {ret : Option FieldType} {rm : Room} (G : OK g κ own cc nL ret rm) {pc : Nat} {lv : List (Nat × Value)} {rest : List Value} {L : Nat → va_E} {dflt lo hi : Int} {offs : Array Int} {len : Nat} {x : Int32} {off : Int} {tgt : Nat} (hd : decode cc pc = .ok (.tableswitch dflt lo hi offs, len)) (h1 : ¬ x.toInt < lo) (h2 : ¬ hi < x.toInt) (ho : offs[(x.toInt - lo).toNat]? = some off) (ht : (pc : Int) + off = (tgt : Int)) (k : J g κ nL tgt lv rest L) : J g κ nL pc lv (.int x :: rest) L := by
  obtain ⟨p, l, e, R, s, m, args, below, meth, c, cells, slots, Q, D, A⟩ := g
  obtain ⟨hx, hb, hml, hr, hlk, hown, hts, hK, hN, hi, hA1, hA2, hc, hs, hR⟩ := G
  intro H locs ls hP hS hl
  exact lv_tableIn hx hb hd h1 h2 ho ht (k H locs ls hP hS hl)
theorem w_tsOut {g : Gm} {κ : ctx} {own : String} {cc : ByteArray} {nL : Nat} {ret : Option FieldType} {rm : Room} (G : OK g κ own cc nL ret rm) {pc : Nat} {lv : List (Nat × Value)} {rest : List Value} {L : Nat → va_E} {dflt lo hi : Int} {offs : Array Int} {len : Nat} {x : Int32} {tgt : Nat} (hd : decode cc pc = .ok (.tableswitch dflt lo hi offs, len)) (h : x.toInt < lo ∨ hi < x.toInt) (ht : (pc : Int) + dflt = (tgt : Int)) (k : J g κ nL tgt lv rest L) : J g κ nL pc lv (.int x :: rest) L := by
  obtain ⟨p, l, e, R, s, m, args, below, meth, c, cells, slots, Q, D, A⟩ := g
  obtain ⟨hx, hb, hml, hr, hlk, hown, hts, hK, hN, hi, hA1, hA2, hc, hs, hR⟩ := G
  intro H locs ls hP hS hl
  exact lv_tableOut hx hb hd h ht (k H locs ls hP hS hl)
end
section
def rm_M_within : Room := { frames := 0, cells := 0, slots := 0, locals := 0 }
theorem dM_within_0 : decode cM_within 0 = .ok (.iload_n 0, 1) := by decide +kernel
theorem dM_within_1 : decode cM_within 1 = .ok (.iload 4, 2) := by decide +kernel
theorem dM_within_3 : decode cM_within 3 = .ok (.ineg, 1) := by decide +kernel
theorem dM_within_4 : decode cM_within 4 = .ok (.if_icmp .lt 52, 3) := by decide +kernel
theorem dM_within_7 : decode cM_within 7 = .ok (.iload_n 0, 1) := by decide +kernel
theorem dM_within_8 : decode cM_within 8 = .ok (.iload 4, 2) := by decide +kernel
theorem dM_within_10 : decode cM_within 10 = .ok (.if_icmp .gt 46, 3) := by decide +kernel
theorem dM_within_13 : decode cM_within 13 = .ok (.iload_n 1, 1) := by decide +kernel
theorem dM_within_14 : decode cM_within 14 = .ok (.iload 4, 2) := by decide +kernel
theorem dM_within_16 : decode cM_within 16 = .ok (.ineg, 1) := by decide +kernel
theorem dM_within_17 : decode cM_within 17 = .ok (.if_icmp .lt 39, 3) := by decide +kernel
theorem dM_within_20 : decode cM_within 20 = .ok (.iload_n 1, 1) := by decide +kernel
theorem dM_within_21 : decode cM_within 21 = .ok (.iload 4, 2) := by decide +kernel
theorem dM_within_23 : decode cM_within 23 = .ok (.if_icmp .gt 33, 3) := by decide +kernel
theorem dM_within_26 : decode cM_within 26 = .ok (.iload_n 2, 1) := by decide +kernel
theorem dM_within_27 : decode cM_within 27 = .ok (.iload 4, 2) := by decide +kernel
theorem dM_within_29 : decode cM_within 29 = .ok (.ineg, 1) := by decide +kernel
theorem dM_within_30 : decode cM_within 30 = .ok (.if_icmp .lt 26, 3) := by decide +kernel
theorem dM_within_33 : decode cM_within 33 = .ok (.iload_n 2, 1) := by decide +kernel
theorem dM_within_34 : decode cM_within 34 = .ok (.iload 4, 2) := by decide +kernel
theorem dM_within_36 : decode cM_within 36 = .ok (.if_icmp .gt 20, 3) := by decide +kernel
theorem dM_within_39 : decode cM_within 39 = .ok (.iload_n 3, 1) := by decide +kernel
theorem dM_within_40 : decode cM_within 40 = .ok (.iload 4, 2) := by decide +kernel
theorem dM_within_42 : decode cM_within 42 = .ok (.ineg, 1) := by decide +kernel
theorem dM_within_43 : decode cM_within 43 = .ok (.if_icmp .lt 13, 3) := by decide +kernel
theorem dM_within_46 : decode cM_within 46 = .ok (.iload_n 3, 1) := by decide +kernel
theorem dM_within_47 : decode cM_within 47 = .ok (.iload 4, 2) := by decide +kernel
theorem dM_within_49 : decode cM_within 49 = .ok (.if_icmp .gt 7, 3) := by decide +kernel
theorem dM_within_52 : decode cM_within 52 = .ok (.iconst 1, 1) := by decide +kernel
theorem dM_within_53 : decode cM_within 53 = .ok (.goto 4, 3) := by decide +kernel
theorem dM_within_56 : decode cM_within 56 = .ok (.iconst 0, 1) := by decide +kernel
theorem dM_within_57 : decode cM_within 57 = .ok (.ireturn, 1) := by decide +kernel
noncomputable def M_within (F : Nat) (v0 : Int32) (v1 : Int32) (v2 : Int32) (v3 : Int32) (v4 : Int32) : Option (Int32) := if v0 < (-v4) then some (0 : Int32) else if v4 < v0 then some (0 : Int32) else if v1 < (-v4) then some (0 : Int32) else if v4 < v1 then some (0 : Int32) else if v2 < (-v4) then some (0 : Int32) else if v4 < v2 then some (0 : Int32) else if v3 < (-v4) then some (0 : Int32) else if v4 < v3 then some (0 : Int32) else some (1 : Int32)
set_option maxHeartbeats 4000000 in
set_option maxRecDepth 100000 in
theorem met_M_within (κ : ctx) (L : Nat → va_E) (F : Nat) (v0 : Int32) (v1 : Int32) (v2 : Int32) (v3 : Int32) (v4 : Int32) {out : Int32} (h : M_within F v0 v1 v2 v3 v4 = some out) : Mt yM_within cM_within 5 (some .boolean) rm_M_within κ [.int v0, .int v1, .int v2, .int v3, .int v4] L (some (.int out)) L := by
  refine Mt.of (by decide) (Nat.le_of_ble_eq_true rfl) ?_
  intro g G Fh
  unfold M_within at h
  show J g κ 5 0 [(0, .int v0), (1, .int v1), (2, .int v2), (3, .int v3), (4, .int v4)] [] L
  refine w_iload_n (pc := 0) (q := 0) G dM_within_0 rfl rfl ?_
  refine w_iload (pc := 1) (q := 4) G dM_within_1 rfl ?_
  refine w_ineg (pc := 3) G dM_within_3 ?_
  refine w_icmp_lt (pc := 4) (tgt := 56) G dM_within_4 (by decide) (fun c4 => ?_) (fun c4 => ?_)
  · have h := if_t c4 h
    refine w_iconst (pc := 56) (v := (0 : Int32)) G dM_within_56 (by decide) ?_
    obtain rfl := Option.some.inj h
    exact w_zret (pc := 57) G rfl dM_within_57 Fh
  · have h := if_f c4 h
    refine w_iload_n (pc := 7) (q := 0) G dM_within_7 rfl rfl ?_
    refine w_iload (pc := 8) (q := 4) G dM_within_8 rfl ?_
    refine w_icmp_gt (pc := 10) (tgt := 56) G dM_within_10 (by decide) (fun c10 => ?_) (fun c10 => ?_)
    · have h := if_t c10 h
      refine w_iconst (pc := 56) (v := (0 : Int32)) G dM_within_56 (by decide) ?_
      obtain rfl := Option.some.inj h
      exact w_zret (pc := 57) G rfl dM_within_57 Fh
    · have h := if_f c10 h
      refine w_iload_n (pc := 13) (q := 1) G dM_within_13 rfl rfl ?_
      refine w_iload (pc := 14) (q := 4) G dM_within_14 rfl ?_
      refine w_ineg (pc := 16) G dM_within_16 ?_
      refine w_icmp_lt (pc := 17) (tgt := 56) G dM_within_17 (by decide) (fun c17 => ?_) (fun c17 => ?_)
      · have h := if_t c17 h
        refine w_iconst (pc := 56) (v := (0 : Int32)) G dM_within_56 (by decide) ?_
        obtain rfl := Option.some.inj h
        exact w_zret (pc := 57) G rfl dM_within_57 Fh
      · have h := if_f c17 h
        refine w_iload_n (pc := 20) (q := 1) G dM_within_20 rfl rfl ?_
        refine w_iload (pc := 21) (q := 4) G dM_within_21 rfl ?_
        refine w_icmp_gt (pc := 23) (tgt := 56) G dM_within_23 (by decide) (fun c23 => ?_) (fun c23 => ?_)
        · have h := if_t c23 h
          refine w_iconst (pc := 56) (v := (0 : Int32)) G dM_within_56 (by decide) ?_
          obtain rfl := Option.some.inj h
          exact w_zret (pc := 57) G rfl dM_within_57 Fh
        · have h := if_f c23 h
          refine w_iload_n (pc := 26) (q := 2) G dM_within_26 rfl rfl ?_
          refine w_iload (pc := 27) (q := 4) G dM_within_27 rfl ?_
          refine w_ineg (pc := 29) G dM_within_29 ?_
          refine w_icmp_lt (pc := 30) (tgt := 56) G dM_within_30 (by decide) (fun c30 => ?_) (fun c30 => ?_)
          · have h := if_t c30 h
            refine w_iconst (pc := 56) (v := (0 : Int32)) G dM_within_56 (by decide) ?_
            obtain rfl := Option.some.inj h
            exact w_zret (pc := 57) G rfl dM_within_57 Fh
          · have h := if_f c30 h
            refine w_iload_n (pc := 33) (q := 2) G dM_within_33 rfl rfl ?_
            refine w_iload (pc := 34) (q := 4) G dM_within_34 rfl ?_
            refine w_icmp_gt (pc := 36) (tgt := 56) G dM_within_36 (by decide) (fun c36 => ?_) (fun c36 => ?_)
            · have h := if_t c36 h
              refine w_iconst (pc := 56) (v := (0 : Int32)) G dM_within_56 (by decide) ?_
              obtain rfl := Option.some.inj h
              exact w_zret (pc := 57) G rfl dM_within_57 Fh
            · have h := if_f c36 h
              refine w_iload_n (pc := 39) (q := 3) G dM_within_39 rfl rfl ?_
              refine w_iload (pc := 40) (q := 4) G dM_within_40 rfl ?_
              refine w_ineg (pc := 42) G dM_within_42 ?_
              refine w_icmp_lt (pc := 43) (tgt := 56) G dM_within_43 (by decide) (fun c43 => ?_) (fun c43 => ?_)
              · have h := if_t c43 h
                refine w_iconst (pc := 56) (v := (0 : Int32)) G dM_within_56 (by decide) ?_
                obtain rfl := Option.some.inj h
                exact w_zret (pc := 57) G rfl dM_within_57 Fh
              · have h := if_f c43 h
                refine w_iload_n (pc := 46) (q := 3) G dM_within_46 rfl rfl ?_
                refine w_iload (pc := 47) (q := 4) G dM_within_47 rfl ?_
                refine w_icmp_gt (pc := 49) (tgt := 56) G dM_within_49 (by decide) (fun c49 => ?_) (fun c49 => ?_)
                · have h := if_t c49 h
                  refine w_iconst (pc := 56) (v := (0 : Int32)) G dM_within_56 (by decide) ?_
                  obtain rfl := Option.some.inj h
                  exact w_zret (pc := 57) G rfl dM_within_57 Fh
                · have h := if_f c49 h
                  refine w_iconst (pc := 52) (v := (1 : Int32)) G dM_within_52 (by decide) ?_
                  refine w_goto (pc := 53) (tgt := 57) G dM_within_53 (by decide) ?_
                  obtain rfl := Option.some.inj h
                  exact w_zret (pc := 57) G rfl dM_within_57 Fh
def rm_M_changed : Room := { frames := 0, cells := 0, slots := 0, locals := 0 }
theorem dM_changed_0 : decode cM_changed 0 = .ok (.aload_n 0, 1) := by decide +kernel
theorem dM_changed_1 : decode cM_changed 1 = .ok (.iconst 0, 1) := by decide +kernel
theorem dM_changed_2 : decode cM_changed 2 = .ok (.putfield 53, 3) := by decide +kernel
theorem dM_changed_5 : decode cM_changed 5 = .ok (.aload_n 0, 1) := by decide +kernel
theorem dM_changed_6 : decode cM_changed 6 = .ok (.iconst 0, 1) := by decide +kernel
theorem dM_changed_7 : decode cM_changed 7 = .ok (.putfield 57, 3) := by decide +kernel
theorem dM_changed_10 : decode cM_changed 10 = .ok (.aload_n 0, 1) := by decide +kernel
theorem dM_changed_11 : decode cM_changed 11 = .ok (.iconst 0, 1) := by decide +kernel
theorem dM_changed_12 : decode cM_changed 12 = .ok (.putfield 60, 3) := by decide +kernel
theorem dM_changed_15 : decode cM_changed 15 = .ok (.return_, 1) := by decide +kernel
noncomputable def M_changed (F : Nat) (τ : MS)  : Option (MS) := some (s_measured (s_listed (s_known τ ((0 : Int32))) ((0 : Int32))) ((0 : Int32)))
set_option maxHeartbeats 4000000 in
set_option maxRecDepth 100000 in
theorem met_M_changed (κ : ctx) (X : Nat → va_E) (F : Nat) (τ : MS)  {out : MS} (h : M_changed F τ  = some out) : Mt yM_changed cM_changed 1 none rm_M_changed κ [.ref (κ.1 0)] (LM κ τ X) none (LM κ out X) := by
  refine Mt.of (by decide) (Nat.le_of_ble_eq_true rfl) ?_
  intro g G Fh
  unfold M_changed at h
  show J g κ 1 0 [(0, .ref (κ.1 0))] [] (LM κ τ X)
  refine w_aload_n (pc := 0) (q := 0) G dM_changed_0 rfl rfl ?_
  refine w_iconst (pc := 1) (v := (0 : Int32)) G dM_changed_1 (by decide) ?_
  refine w_put (pc := 2) (fs := mfl κ τ) (L1 := (LM κ (s_known τ ((0 : Int32))) X)) G 0 (by decide) rfl rfl wsM_ok tyM tyM_ok nmM 2 (by decide) wd492 rfl rfl rfl (Nat.le_of_ble_eq_true rfl) dM_changed_2 (LMf_known κ τ X _) ?_
  refine w_aload_n (pc := 5) (q := 0) G dM_changed_5 rfl rfl ?_
  refine w_iconst (pc := 6) (v := (0 : Int32)) G dM_changed_6 (by decide) ?_
  refine w_put (pc := 7) (fs := mfl κ (s_known τ ((0 : Int32)))) (L1 := (LM κ (s_listed (s_known τ ((0 : Int32))) ((0 : Int32))) X)) G 0 (by decide) rfl rfl wsM_ok tyM tyM_ok nmM 16 (by decide) wd506 rfl rfl rfl (Nat.le_of_ble_eq_true rfl) dM_changed_7 (LMf_listed κ (s_known τ ((0 : Int32))) X _) ?_
  refine w_aload_n (pc := 10) (q := 0) G dM_changed_10 rfl rfl ?_
  refine w_iconst (pc := 11) (v := (0 : Int32)) G dM_changed_11 (by decide) ?_
  refine w_put (pc := 12) (fs := mfl κ (s_listed (s_known τ ((0 : Int32))) ((0 : Int32)))) (L1 := (LM κ (s_measured (s_listed (s_known τ ((0 : Int32))) ((0 : Int32))) ((0 : Int32))) X)) G 0 (by decide) rfl rfl wsM_ok tyM tyM_ok nmM 24 (by decide) wd514 rfl rfl rfl (Nat.le_of_ble_eq_true rfl) dM_changed_12 (LMf_measured κ (s_listed (s_known τ ((0 : Int32))) ((0 : Int32))) X _) ?_
  obtain rfl := Option.some.inj h
  exact w_vret (pc := 15) G dM_changed_15 Fh
def rm_M_add : Room := { frames := 1, cells := 0, slots := 0, locals := 24 }
theorem dM_add_0 : decode cM_add 0 = .ok (.iload_n 1, 1) := by decide +kernel
theorem dM_add_1 : decode cM_add 1 = .ok (.iload_n 2, 1) := by decide +kernel
theorem dM_add_2 : decode cM_add 2 = .ok (.iload_n 3, 1) := by decide +kernel
theorem dM_add_3 : decode cM_add 3 = .ok (.iload 4, 2) := by decide +kernel
theorem dM_add_5 : decode cM_add 5 = .ok (.bipush 9, 2) := by decide +kernel
theorem dM_add_7 : decode cM_add 7 = .ok (.invokestatic 63, 3) := by decide +kernel
theorem dM_add_10 : decode cM_add 10 = .ok (.ifCond .ne 5, 3) := by decide +kernel
theorem dM_add_13 : decode cM_add 13 = .ok (.iconst (-1), 1) := by decide +kernel
theorem dM_add_14 : decode cM_add 14 = .ok (.ireturn, 1) := by decide +kernel
theorem dM_add_15 : decode cM_add 15 = .ok (.aload_n 0, 1) := by decide +kernel
theorem dM_add_16 : decode cM_add 16 = .ok (.getfield 67, 3) := by decide +kernel
theorem dM_add_19 : decode cM_add 19 = .ok (.bipush 6, 2) := by decide +kernel
theorem dM_add_21 : decode cM_add 21 = .ok (.if_icmp .ne 6, 3) := by decide +kernel
theorem dM_add_24 : decode cM_add 24 = .ok (.bipush (-2), 2) := by decide +kernel
theorem dM_add_26 : decode cM_add 26 = .ok (.ireturn, 1) := by decide +kernel
theorem dM_add_27 : decode cM_add 27 = .ok (.aload_n 0, 1) := by decide +kernel
theorem dM_add_28 : decode cM_add 28 = .ok (.getfield 7, 3) := by decide +kernel
theorem dM_add_31 : decode cM_add 31 = .ok (.iconst 4, 1) := by decide +kernel
theorem dM_add_32 : decode cM_add 32 = .ok (.aload_n 0, 1) := by decide +kernel
theorem dM_add_33 : decode cM_add 33 = .ok (.getfield 67, 3) := by decide +kernel
theorem dM_add_36 : decode cM_add 36 = .ok (.imul, 1) := by decide +kernel
theorem dM_add_37 : decode cM_add 37 = .ok (.iload_n 1, 1) := by decide +kernel
theorem dM_add_38 : decode cM_add 38 = .ok (.iastore, 1) := by decide +kernel
theorem dM_add_39 : decode cM_add 39 = .ok (.aload_n 0, 1) := by decide +kernel
theorem dM_add_40 : decode cM_add 40 = .ok (.getfield 7, 3) := by decide +kernel
theorem dM_add_43 : decode cM_add 43 = .ok (.iconst 4, 1) := by decide +kernel
theorem dM_add_44 : decode cM_add 44 = .ok (.aload_n 0, 1) := by decide +kernel
theorem dM_add_45 : decode cM_add 45 = .ok (.getfield 67, 3) := by decide +kernel
theorem dM_add_48 : decode cM_add 48 = .ok (.imul, 1) := by decide +kernel
theorem dM_add_49 : decode cM_add 49 = .ok (.iconst 1, 1) := by decide +kernel
theorem dM_add_50 : decode cM_add 50 = .ok (.iadd, 1) := by decide +kernel
theorem dM_add_51 : decode cM_add 51 = .ok (.iload_n 2, 1) := by decide +kernel
theorem dM_add_52 : decode cM_add 52 = .ok (.iastore, 1) := by decide +kernel
theorem dM_add_53 : decode cM_add 53 = .ok (.aload_n 0, 1) := by decide +kernel
theorem dM_add_54 : decode cM_add 54 = .ok (.getfield 7, 3) := by decide +kernel
theorem dM_add_57 : decode cM_add 57 = .ok (.iconst 4, 1) := by decide +kernel
theorem dM_add_58 : decode cM_add 58 = .ok (.aload_n 0, 1) := by decide +kernel
theorem dM_add_59 : decode cM_add 59 = .ok (.getfield 67, 3) := by decide +kernel
theorem dM_add_62 : decode cM_add 62 = .ok (.imul, 1) := by decide +kernel
theorem dM_add_63 : decode cM_add 63 = .ok (.iconst 2, 1) := by decide +kernel
theorem dM_add_64 : decode cM_add 64 = .ok (.iadd, 1) := by decide +kernel
theorem dM_add_65 : decode cM_add 65 = .ok (.iload_n 3, 1) := by decide +kernel
theorem dM_add_66 : decode cM_add 66 = .ok (.iastore, 1) := by decide +kernel
theorem dM_add_67 : decode cM_add 67 = .ok (.aload_n 0, 1) := by decide +kernel
theorem dM_add_68 : decode cM_add 68 = .ok (.getfield 7, 3) := by decide +kernel
theorem dM_add_71 : decode cM_add 71 = .ok (.iconst 4, 1) := by decide +kernel
theorem dM_add_72 : decode cM_add 72 = .ok (.aload_n 0, 1) := by decide +kernel
theorem dM_add_73 : decode cM_add 73 = .ok (.getfield 67, 3) := by decide +kernel
theorem dM_add_76 : decode cM_add 76 = .ok (.imul, 1) := by decide +kernel
theorem dM_add_77 : decode cM_add 77 = .ok (.iconst 3, 1) := by decide +kernel
theorem dM_add_78 : decode cM_add 78 = .ok (.iadd, 1) := by decide +kernel
theorem dM_add_79 : decode cM_add 79 = .ok (.iload 4, 2) := by decide +kernel
theorem dM_add_81 : decode cM_add 81 = .ok (.iastore, 1) := by decide +kernel
theorem dM_add_82 : decode cM_add 82 = .ok (.aload_n 0, 1) := by decide +kernel
theorem dM_add_83 : decode cM_add 83 = .ok (.dup, 1) := by decide +kernel
theorem dM_add_84 : decode cM_add 84 = .ok (.getfield 67, 3) := by decide +kernel
theorem dM_add_87 : decode cM_add 87 = .ok (.iconst 1, 1) := by decide +kernel
theorem dM_add_88 : decode cM_add 88 = .ok (.iadd, 1) := by decide +kernel
theorem dM_add_89 : decode cM_add 89 = .ok (.putfield 67, 3) := by decide +kernel
theorem dM_add_92 : decode cM_add 92 = .ok (.aload_n 0, 1) := by decide +kernel
theorem dM_add_93 : decode cM_add 93 = .ok (.invokevirtual 71, 3) := by decide +kernel
theorem dM_add_96 : decode cM_add 96 = .ok (.aload_n 0, 1) := by decide +kernel
theorem dM_add_97 : decode cM_add 97 = .ok (.getfield 67, 3) := by decide +kernel
theorem dM_add_100 : decode cM_add 100 = .ok (.iconst 1, 1) := by decide +kernel
theorem dM_add_101 : decode cM_add 101 = .ok (.isub, 1) := by decide +kernel
theorem dM_add_102 : decode cM_add 102 = .ok (.ireturn, 1) := by decide +kernel
theorem cb_M_changed_M_add : CB yM_changed cM_changed 1 none rm_M_changed rm_M_add 0 := ⟨wd582, wd8, by decide +kernel, rfl, rfl, by decide⟩
theorem cb_M_within_M_add : CB yM_within cM_within 5 (some .boolean) rm_M_within rm_M_add 5 := ⟨wd578, wd8, by decide +kernel, rfl, rfl, by decide⟩
noncomputable def M_add (F : Nat) (τ : MS) (v1 : Int32) (v2 : Int32) (v3 : Int32) (v4 : Int32) : Option (Int32 × MS) := (M_within F v1 v2 v3 v4 (9 : Int32)).bind (fun r7 => if r7 = 0 then some ((-1 : Int32), τ) else if (m_many τ) = (6 : Int32) then some ((-2 : Int32), τ) else gd (vp_in ((4 : Int32) * (m_many τ)) 24) (gd (vp_in (((4 : Int32) * (m_many τ)) + (1 : Int32)) 24) (gd (vp_in (((4 : Int32) * (m_many τ)) + (2 : Int32)) 24) (gd (vp_in (((4 : Int32) * (m_many τ)) + (3 : Int32)) 24) ((M_changed F (s_generator (s_many τ (((m_many τ) + (1 : Int32)))) (upd (upd (upd (upd (m_generator τ) ((4 : Int32) * (m_many τ)).toNatClampNeg v1) (((4 : Int32) * (m_many τ)) + (1 : Int32)).toNatClampNeg v2) (((4 : Int32) * (m_many τ)) + (2 : Int32)).toNatClampNeg v3) (((4 : Int32) * (m_many τ)) + (3 : Int32)).toNatClampNeg v4)) ).bind (fun r93 => some (((m_many r93) - (1 : Int32)), r93)))))))
set_option maxHeartbeats 4000000 in
set_option maxRecDepth 100000 in
theorem met_M_add (κ : ctx) (X : Nat → va_E) (F : Nat) (τ : MS) (v1 : Int32) (v2 : Int32) (v3 : Int32) (v4 : Int32) {out : Int32 × MS} (h : M_add F τ v1 v2 v3 v4 = some out) : Mt yM_add cM_add 5 (some .int) rm_M_add κ [.ref (κ.1 0), .int v1, .int v2, .int v3, .int v4] (LM κ τ X) (some (.int out.1)) (LM κ out.2 X) := by
  refine Mt.of (by decide) (Nat.le_of_ble_eq_true rfl) ?_
  intro g G Fh
  unfold M_add at h
  show J g κ 5 0 [(0, .ref (κ.1 0)), (1, .int v1), (2, .int v2), (3, .int v3), (4, .int v4)] [] (LM κ τ X)
  refine w_iload_n (pc := 0) (q := 1) G dM_add_0 rfl rfl ?_
  refine w_iload_n (pc := 1) (q := 2) G dM_add_1 rfl rfl ?_
  refine w_iload_n (pc := 2) (q := 3) G dM_add_2 rfl rfl ?_
  refine w_iload (pc := 3) (q := 4) G dM_add_3 rfl ?_
  refine w_bipush (pc := 5) (v := (9 : Int32)) G dM_add_5 (by decide) ?_
  obtain ⟨r7, e7, h⟩ := bd h
  refine w_callS (pc := 7) (av := [.int v1, .int v2, .int v3, .int v4, .int (9 : Int32)]) (rest := []) (v := some (.int r7)) (L' := (LM κ τ X)) G cb_M_within_M_add wd577 wd576 (met_M_within κ (LM κ τ X) F v1 v2 v3 v4 (9 : Int32) e7) rfl rfl rfl (Nat.le_of_ble_eq_true rfl) dM_add_7 ?_
  refine w_if_ne (pc := 10) (tgt := 15) G dM_add_10 (by decide) (fun c10 => ?_) (fun c10 => ?_)
  · have h := if_t c10 h
    refine w_iconst (pc := 13) (v := (-1 : Int32)) G dM_add_13 (by decide) ?_
    obtain rfl := Option.some.inj h
    exact w_iret (pc := 14) G dM_add_14 Fh
  · have h := if_f c10 h
    refine w_aload_n (pc := 15) (q := 0) G dM_add_15 rfl rfl ?_
    refine w_get (pc := 16) (v := .int (m_many τ)) (fs := mfl κ τ) G 0 (by decide) rfl rfl wsM_ok 0 (by decide) wd490 rfl dM_add_16 ?_
    refine w_bipush (pc := 19) (v := (6 : Int32)) G dM_add_19 (by decide) ?_
    refine w_icmp_ne (pc := 21) (tgt := 27) G dM_add_21 (by decide) (fun c21 => ?_) (fun c21 => ?_)
    · have h := if_t c21 h
      refine w_bipush (pc := 24) (v := (-2 : Int32)) G dM_add_24 (by decide) ?_
      obtain rfl := Option.some.inj h
      exact w_iret (pc := 26) G dM_add_26 Fh
    · have h := if_f c21 h
      refine w_aload_n (pc := 27) (q := 0) G dM_add_27 rfl rfl ?_
      refine w_get (pc := 28) (v := .ref (κ.1 1)) (fs := mfl κ τ) G 0 (by decide) rfl rfl wsM_ok 1 (by decide) wd491 rfl dM_add_28 ?_
      refine w_iconst (pc := 31) (v := (4 : Int32)) G dM_add_31 (by decide) ?_
      refine w_aload_n (pc := 32) (q := 0) G dM_add_32 rfl rfl ?_
      refine w_get (pc := 33) (v := .int (m_many τ)) (fs := mfl κ τ) G 0 (by decide) rfl rfl wsM_ok 0 (by decide) wd490 rfl dM_add_33 ?_
      refine w_imul (pc := 36) G dM_add_36 ?_
      refine w_iload_n (pc := 37) (q := 1) G dM_add_37 rfl rfl ?_
      obtain ⟨i38, h⟩ := gd_some h
      refine w_iast (pc := 38) (n := 24) (f := (m_generator τ)) (L1 := (LM κ (s_generator τ (upd (m_generator τ) ((4 : Int32) * (m_many τ)).toNatClampNeg v1)) X)) G 1 (by decide) rfl i38 dM_add_38 (LM_generator κ τ X _) ?_
      refine w_aload_n (pc := 39) (q := 0) G dM_add_39 rfl rfl ?_
      refine w_get (pc := 40) (v := .ref (κ.1 1)) (fs := mfl κ (s_generator τ (upd (m_generator τ) ((4 : Int32) * (m_many τ)).toNatClampNeg v1))) G 0 (by decide) rfl rfl wsM_ok 1 (by decide) wd491 rfl dM_add_40 ?_
      refine w_iconst (pc := 43) (v := (4 : Int32)) G dM_add_43 (by decide) ?_
      refine w_aload_n (pc := 44) (q := 0) G dM_add_44 rfl rfl ?_
      refine w_get (pc := 45) (v := .int (m_many τ)) (fs := mfl κ (s_generator τ (upd (m_generator τ) ((4 : Int32) * (m_many τ)).toNatClampNeg v1))) G 0 (by decide) rfl rfl wsM_ok 0 (by decide) wd490 rfl dM_add_45 ?_
      refine w_imul (pc := 48) G dM_add_48 ?_
      refine w_iconst (pc := 49) (v := (1 : Int32)) G dM_add_49 (by decide) ?_
      refine w_iadd (pc := 50) G dM_add_50 ?_
      refine w_iload_n (pc := 51) (q := 2) G dM_add_51 rfl rfl ?_
      obtain ⟨i52, h⟩ := gd_some h
      refine w_iast (pc := 52) (n := 24) (f := upd (m_generator τ) ((4 : Int32) * (m_many τ)).toNatClampNeg v1) (L1 := (LM κ (s_generator τ (upd (upd (m_generator τ) ((4 : Int32) * (m_many τ)).toNatClampNeg v1) (((4 : Int32) * (m_many τ)) + (1 : Int32)).toNatClampNeg v2)) X)) G 1 (by decide) rfl i52 dM_add_52 (LM_generator κ (s_generator τ (upd (m_generator τ) ((4 : Int32) * (m_many τ)).toNatClampNeg v1)) X _) ?_
      refine w_aload_n (pc := 53) (q := 0) G dM_add_53 rfl rfl ?_
      refine w_get (pc := 54) (v := .ref (κ.1 1)) (fs := mfl κ (s_generator τ (upd (upd (m_generator τ) ((4 : Int32) * (m_many τ)).toNatClampNeg v1) (((4 : Int32) * (m_many τ)) + (1 : Int32)).toNatClampNeg v2))) G 0 (by decide) rfl rfl wsM_ok 1 (by decide) wd491 rfl dM_add_54 ?_
      refine w_iconst (pc := 57) (v := (4 : Int32)) G dM_add_57 (by decide) ?_
      refine w_aload_n (pc := 58) (q := 0) G dM_add_58 rfl rfl ?_
      refine w_get (pc := 59) (v := .int (m_many τ)) (fs := mfl κ (s_generator τ (upd (upd (m_generator τ) ((4 : Int32) * (m_many τ)).toNatClampNeg v1) (((4 : Int32) * (m_many τ)) + (1 : Int32)).toNatClampNeg v2))) G 0 (by decide) rfl rfl wsM_ok 0 (by decide) wd490 rfl dM_add_59 ?_
      refine w_imul (pc := 62) G dM_add_62 ?_
      refine w_iconst (pc := 63) (v := (2 : Int32)) G dM_add_63 (by decide) ?_
      refine w_iadd (pc := 64) G dM_add_64 ?_
      refine w_iload_n (pc := 65) (q := 3) G dM_add_65 rfl rfl ?_
      obtain ⟨i66, h⟩ := gd_some h
      refine w_iast (pc := 66) (n := 24) (f := upd (upd (m_generator τ) ((4 : Int32) * (m_many τ)).toNatClampNeg v1) (((4 : Int32) * (m_many τ)) + (1 : Int32)).toNatClampNeg v2) (L1 := (LM κ (s_generator τ (upd (upd (upd (m_generator τ) ((4 : Int32) * (m_many τ)).toNatClampNeg v1) (((4 : Int32) * (m_many τ)) + (1 : Int32)).toNatClampNeg v2) (((4 : Int32) * (m_many τ)) + (2 : Int32)).toNatClampNeg v3)) X)) G 1 (by decide) rfl i66 dM_add_66 (LM_generator κ (s_generator τ (upd (upd (m_generator τ) ((4 : Int32) * (m_many τ)).toNatClampNeg v1) (((4 : Int32) * (m_many τ)) + (1 : Int32)).toNatClampNeg v2)) X _) ?_
      refine w_aload_n (pc := 67) (q := 0) G dM_add_67 rfl rfl ?_
      refine w_get (pc := 68) (v := .ref (κ.1 1)) (fs := mfl κ (s_generator τ (upd (upd (upd (m_generator τ) ((4 : Int32) * (m_many τ)).toNatClampNeg v1) (((4 : Int32) * (m_many τ)) + (1 : Int32)).toNatClampNeg v2) (((4 : Int32) * (m_many τ)) + (2 : Int32)).toNatClampNeg v3))) G 0 (by decide) rfl rfl wsM_ok 1 (by decide) wd491 rfl dM_add_68 ?_
      refine w_iconst (pc := 71) (v := (4 : Int32)) G dM_add_71 (by decide) ?_
      refine w_aload_n (pc := 72) (q := 0) G dM_add_72 rfl rfl ?_
      refine w_get (pc := 73) (v := .int (m_many τ)) (fs := mfl κ (s_generator τ (upd (upd (upd (m_generator τ) ((4 : Int32) * (m_many τ)).toNatClampNeg v1) (((4 : Int32) * (m_many τ)) + (1 : Int32)).toNatClampNeg v2) (((4 : Int32) * (m_many τ)) + (2 : Int32)).toNatClampNeg v3))) G 0 (by decide) rfl rfl wsM_ok 0 (by decide) wd490 rfl dM_add_73 ?_
      refine w_imul (pc := 76) G dM_add_76 ?_
      refine w_iconst (pc := 77) (v := (3 : Int32)) G dM_add_77 (by decide) ?_
      refine w_iadd (pc := 78) G dM_add_78 ?_
      refine w_iload (pc := 79) (q := 4) G dM_add_79 rfl ?_
      obtain ⟨i81, h⟩ := gd_some h
      refine w_iast (pc := 81) (n := 24) (f := upd (upd (upd (m_generator τ) ((4 : Int32) * (m_many τ)).toNatClampNeg v1) (((4 : Int32) * (m_many τ)) + (1 : Int32)).toNatClampNeg v2) (((4 : Int32) * (m_many τ)) + (2 : Int32)).toNatClampNeg v3) (L1 := (LM κ (s_generator τ (upd (upd (upd (upd (m_generator τ) ((4 : Int32) * (m_many τ)).toNatClampNeg v1) (((4 : Int32) * (m_many τ)) + (1 : Int32)).toNatClampNeg v2) (((4 : Int32) * (m_many τ)) + (2 : Int32)).toNatClampNeg v3) (((4 : Int32) * (m_many τ)) + (3 : Int32)).toNatClampNeg v4)) X)) G 1 (by decide) rfl i81 dM_add_81 (LM_generator κ (s_generator τ (upd (upd (upd (m_generator τ) ((4 : Int32) * (m_many τ)).toNatClampNeg v1) (((4 : Int32) * (m_many τ)) + (1 : Int32)).toNatClampNeg v2) (((4 : Int32) * (m_many τ)) + (2 : Int32)).toNatClampNeg v3)) X _) ?_
      refine w_aload_n (pc := 82) (q := 0) G dM_add_82 rfl rfl ?_
      refine w_dup (pc := 83) G dM_add_83 rfl ?_
      refine w_get (pc := 84) (v := .int (m_many τ)) (fs := mfl κ (s_generator τ (upd (upd (upd (upd (m_generator τ) ((4 : Int32) * (m_many τ)).toNatClampNeg v1) (((4 : Int32) * (m_many τ)) + (1 : Int32)).toNatClampNeg v2) (((4 : Int32) * (m_many τ)) + (2 : Int32)).toNatClampNeg v3) (((4 : Int32) * (m_many τ)) + (3 : Int32)).toNatClampNeg v4))) G 0 (by decide) rfl rfl wsM_ok 0 (by decide) wd490 rfl dM_add_84 ?_
      refine w_iconst (pc := 87) (v := (1 : Int32)) G dM_add_87 (by decide) ?_
      refine w_iadd (pc := 88) G dM_add_88 ?_
      refine w_put (pc := 89) (fs := mfl κ (s_generator τ (upd (upd (upd (upd (m_generator τ) ((4 : Int32) * (m_many τ)).toNatClampNeg v1) (((4 : Int32) * (m_many τ)) + (1 : Int32)).toNatClampNeg v2) (((4 : Int32) * (m_many τ)) + (2 : Int32)).toNatClampNeg v3) (((4 : Int32) * (m_many τ)) + (3 : Int32)).toNatClampNeg v4))) (L1 := (LM κ (s_generator (s_many τ (((m_many τ) + (1 : Int32)))) (upd (upd (upd (upd (m_generator τ) ((4 : Int32) * (m_many τ)).toNatClampNeg v1) (((4 : Int32) * (m_many τ)) + (1 : Int32)).toNatClampNeg v2) (((4 : Int32) * (m_many τ)) + (2 : Int32)).toNatClampNeg v3) (((4 : Int32) * (m_many τ)) + (3 : Int32)).toNatClampNeg v4)) X)) G 0 (by decide) rfl rfl wsM_ok tyM tyM_ok nmM 0 (by decide) wd490 rfl rfl rfl (Nat.le_of_ble_eq_true rfl) dM_add_89 (LMf_many κ (s_generator τ (upd (upd (upd (upd (m_generator τ) ((4 : Int32) * (m_many τ)).toNatClampNeg v1) (((4 : Int32) * (m_many τ)) + (1 : Int32)).toNatClampNeg v2) (((4 : Int32) * (m_many τ)) + (2 : Int32)).toNatClampNeg v3) (((4 : Int32) * (m_many τ)) + (3 : Int32)).toNatClampNeg v4)) X _) ?_
      refine w_aload_n (pc := 92) (q := 0) G dM_add_92 rfl rfl ?_
      obtain ⟨r93, e93, h⟩ := bd h
      refine w_callV (pc := 93) (av := []) (rest := []) (v := none) (L' := (LM κ r93 X)) (T := TM) (fs := mfl κ (s_generator (s_many τ (((m_many τ) + (1 : Int32)))) (upd (upd (upd (upd (m_generator τ) ((4 : Int32) * (m_many τ)).toNatClampNeg v1) (((4 : Int32) * (m_many τ)) + (1 : Int32)).toNatClampNeg v2) (((4 : Int32) * (m_many τ)) + (2 : Int32)).toNatClampNeg v3) (((4 : Int32) * (m_many τ)) + (3 : Int32)).toNatClampNeg v4))) G 0 0 27 (by decide) rfl rfl cb_M_changed_M_add wd581 ws19 wd579 (met_M_changed κ X F (s_generator (s_many τ (((m_many τ) + (1 : Int32)))) (upd (upd (upd (upd (m_generator τ) ((4 : Int32) * (m_many τ)).toNatClampNeg v1) (((4 : Int32) * (m_many τ)) + (1 : Int32)).toNatClampNeg v2) (((4 : Int32) * (m_many τ)) + (2 : Int32)).toNatClampNeg v3) (((4 : Int32) * (m_many τ)) + (3 : Int32)).toNatClampNeg v4))  e93) rfl rfl rfl (Nat.le_of_ble_eq_true rfl) dM_add_93 ?_
      refine w_aload_n (pc := 96) (q := 0) G dM_add_96 rfl rfl ?_
      refine w_get (pc := 97) (v := .int (m_many r93)) (fs := mfl κ r93) G 0 (by decide) rfl rfl wsM_ok 0 (by decide) wd490 rfl dM_add_97 ?_
      refine w_iconst (pc := 100) (v := (1 : Int32)) G dM_add_100 (by decide) ?_
      refine w_isub (pc := 101) G dM_add_101 ?_
      obtain rfl := Option.some.inj h
      exact w_iret (pc := 102) G dM_add_102 Fh
def rm_M_drop : Room := { frames := 1, cells := 0, slots := 0, locals := 20 }
theorem dM_drop_0 : decode cM_drop 0 = .ok (.aload_n 0, 1) := by decide +kernel
theorem dM_drop_1 : decode cM_drop 1 = .ok (.getfield 67, 3) := by decide +kernel
theorem dM_drop_4 : decode cM_drop 4 = .ok (.ifCond .ne 5, 3) := by decide +kernel
theorem dM_drop_7 : decode cM_drop 7 = .ok (.iconst 0, 1) := by decide +kernel
theorem dM_drop_8 : decode cM_drop 8 = .ok (.ireturn, 1) := by decide +kernel
theorem dM_drop_9 : decode cM_drop 9 = .ok (.aload_n 0, 1) := by decide +kernel
theorem dM_drop_10 : decode cM_drop 10 = .ok (.dup, 1) := by decide +kernel
theorem dM_drop_11 : decode cM_drop 11 = .ok (.getfield 67, 3) := by decide +kernel
theorem dM_drop_14 : decode cM_drop 14 = .ok (.iconst 1, 1) := by decide +kernel
theorem dM_drop_15 : decode cM_drop 15 = .ok (.isub, 1) := by decide +kernel
theorem dM_drop_16 : decode cM_drop 16 = .ok (.putfield 67, 3) := by decide +kernel
theorem dM_drop_19 : decode cM_drop 19 = .ok (.aload_n 0, 1) := by decide +kernel
theorem dM_drop_20 : decode cM_drop 20 = .ok (.invokevirtual 71, 3) := by decide +kernel
theorem dM_drop_23 : decode cM_drop 23 = .ok (.iconst 1, 1) := by decide +kernel
theorem dM_drop_24 : decode cM_drop 24 = .ok (.ireturn, 1) := by decide +kernel
theorem cb_M_changed_M_drop : CB yM_changed cM_changed 1 none rm_M_changed rm_M_drop 0 := ⟨wd582, wd8, by decide +kernel, rfl, rfl, by decide⟩
noncomputable def M_drop (F : Nat) (τ : MS)  : Option (Int32 × MS) := if (m_many τ) = 0 then some ((0 : Int32), τ) else (M_changed F (s_many τ (((m_many τ) - (1 : Int32)))) ).bind (fun r20 => some ((1 : Int32), r20))
set_option maxHeartbeats 4000000 in
set_option maxRecDepth 100000 in
theorem met_M_drop (κ : ctx) (X : Nat → va_E) (F : Nat) (τ : MS)  {out : Int32 × MS} (h : M_drop F τ  = some out) : Mt yM_drop cM_drop 1 (some .boolean) rm_M_drop κ [.ref (κ.1 0)] (LM κ τ X) (some (.int out.1)) (LM κ out.2 X) := by
  refine Mt.of (by decide) (Nat.le_of_ble_eq_true rfl) ?_
  intro g G Fh
  unfold M_drop at h
  show J g κ 1 0 [(0, .ref (κ.1 0))] [] (LM κ τ X)
  refine w_aload_n (pc := 0) (q := 0) G dM_drop_0 rfl rfl ?_
  refine w_get (pc := 1) (v := .int (m_many τ)) (fs := mfl κ τ) G 0 (by decide) rfl rfl wsM_ok 0 (by decide) wd490 rfl dM_drop_1 ?_
  refine w_if_ne (pc := 4) (tgt := 9) G dM_drop_4 (by decide) (fun c4 => ?_) (fun c4 => ?_)
  · have h := if_t c4 h
    refine w_iconst (pc := 7) (v := (0 : Int32)) G dM_drop_7 (by decide) ?_
    obtain rfl := Option.some.inj h
    exact w_zret (pc := 8) G rfl dM_drop_8 Fh
  · have h := if_f c4 h
    refine w_aload_n (pc := 9) (q := 0) G dM_drop_9 rfl rfl ?_
    refine w_dup (pc := 10) G dM_drop_10 rfl ?_
    refine w_get (pc := 11) (v := .int (m_many τ)) (fs := mfl κ τ) G 0 (by decide) rfl rfl wsM_ok 0 (by decide) wd490 rfl dM_drop_11 ?_
    refine w_iconst (pc := 14) (v := (1 : Int32)) G dM_drop_14 (by decide) ?_
    refine w_isub (pc := 15) G dM_drop_15 ?_
    refine w_put (pc := 16) (fs := mfl κ τ) (L1 := (LM κ (s_many τ (((m_many τ) - (1 : Int32)))) X)) G 0 (by decide) rfl rfl wsM_ok tyM tyM_ok nmM 0 (by decide) wd490 rfl rfl rfl (Nat.le_of_ble_eq_true rfl) dM_drop_16 (LMf_many κ τ X _) ?_
    refine w_aload_n (pc := 19) (q := 0) G dM_drop_19 rfl rfl ?_
    obtain ⟨r20, e20, h⟩ := bd h
    refine w_callV (pc := 20) (av := []) (rest := []) (v := none) (L' := (LM κ r20 X)) (T := TM) (fs := mfl κ (s_many τ (((m_many τ) - (1 : Int32))))) G 0 0 27 (by decide) rfl rfl cb_M_changed_M_drop wd581 ws19 wd579 (met_M_changed κ X F (s_many τ (((m_many τ) - (1 : Int32))))  e20) rfl rfl rfl (Nat.le_of_ble_eq_true rfl) dM_drop_20 ?_
    refine w_iconst (pc := 23) (v := (1 : Int32)) G dM_drop_23 (by decide) ?_
    obtain rfl := Option.some.inj h
    exact w_zret (pc := 24) G rfl dM_drop_24 Fh
def rm_M_generators : Room := { frames := 0, cells := 0, slots := 0, locals := 0 }
theorem dM_generators_0 : decode cM_generators 0 = .ok (.aload_n 0, 1) := by decide +kernel
theorem dM_generators_1 : decode cM_generators 1 = .ok (.getfield 67, 3) := by decide +kernel
theorem dM_generators_4 : decode cM_generators 4 = .ok (.ireturn, 1) := by decide +kernel
noncomputable def M_generators (F : Nat) (τ : MS)  : Option (Int32) := some (m_many τ)
set_option maxHeartbeats 4000000 in
set_option maxRecDepth 100000 in
theorem met_M_generators (κ : ctx) (X : Nat → va_E) (F : Nat) (τ : MS)  {out : Int32} (h : M_generators F τ  = some out) : Mt yM_generators cM_generators 1 (some .int) rm_M_generators κ [.ref (κ.1 0)] (LM κ τ X) (some (.int out)) (LM κ τ X) := by
  refine Mt.of (by decide) (Nat.le_of_ble_eq_true rfl) ?_
  intro g G Fh
  unfold M_generators at h
  show J g κ 1 0 [(0, .ref (κ.1 0))] [] (LM κ τ X)
  refine w_aload_n (pc := 0) (q := 0) G dM_generators_0 rfl rfl ?_
  refine w_get (pc := 1) (v := .int (m_many τ)) (fs := mfl κ τ) G 0 (by decide) rfl rfl wsM_ok 0 (by decide) wd490 rfl dM_generators_1 ?_
  obtain rfl := Option.some.inj h
  exact w_iret (pc := 4) G dM_generators_4 Fh
def rm_M_rowAt : Room := { frames := 0, cells := 0, slots := 0, locals := 0 }
theorem dM_rowAt_0 : decode cM_rowAt 0 = .ok (.iconst (-1), 1) := by decide +kernel
theorem dM_rowAt_1 : decode cM_rowAt 1 = .ok (.istore_n 2, 1) := by decide +kernel
theorem dM_rowAt_2 : decode cM_rowAt 2 = .ok (.iconst 0, 1) := by decide +kernel
theorem dM_rowAt_3 : decode cM_rowAt 3 = .ok (.istore_n 3, 1) := by decide +kernel
theorem dM_rowAt_4 : decode cM_rowAt 4 = .ok (.iload_n 3, 1) := by decide +kernel
theorem dM_rowAt_5 : decode cM_rowAt 5 = .ok (.aload_n 0, 1) := by decide +kernel
theorem dM_rowAt_6 : decode cM_rowAt 6 = .ok (.getfield 74, 3) := by decide +kernel
theorem dM_rowAt_9 : decode cM_rowAt 9 = .ok (.if_icmp .ge 25, 3) := by decide +kernel
theorem dM_rowAt_12 : decode cM_rowAt 12 = .ok (.aload_n 0, 1) := by decide +kernel
theorem dM_rowAt_13 : decode cM_rowAt 13 = .ok (.getfield 17, 3) := by decide +kernel
theorem dM_rowAt_16 : decode cM_rowAt 16 = .ok (.iload_n 3, 1) := by decide +kernel
theorem dM_rowAt_17 : decode cM_rowAt 17 = .ok (.iaload, 1) := by decide +kernel
theorem dM_rowAt_18 : decode cM_rowAt 18 = .ok (.iload_n 1, 1) := by decide +kernel
theorem dM_rowAt_19 : decode cM_rowAt 19 = .ok (.if_icmp .ne 7, 3) := by decide +kernel
theorem dM_rowAt_22 : decode cM_rowAt 22 = .ok (.iload_n 3, 1) := by decide +kernel
theorem dM_rowAt_23 : decode cM_rowAt 23 = .ok (.goto 4, 3) := by decide +kernel
theorem dM_rowAt_26 : decode cM_rowAt 26 = .ok (.iload_n 2, 1) := by decide +kernel
theorem dM_rowAt_27 : decode cM_rowAt 27 = .ok (.istore_n 2, 1) := by decide +kernel
theorem dM_rowAt_28 : decode cM_rowAt 28 = .ok (.iinc 3 1, 3) := by decide +kernel
theorem dM_rowAt_31 : decode cM_rowAt 31 = .ok (.goto (-27), 3) := by decide +kernel
theorem dM_rowAt_34 : decode cM_rowAt 34 = .ok (.iload_n 2, 1) := by decide +kernel
theorem dM_rowAt_35 : decode cM_rowAt 35 = .ok (.ireturn, 1) := by decide +kernel
noncomputable def lM_rowAt_4 (F : Nat) (τ : MS) (v1 : Int32) : Nat → Int32 → Int32 → Option (Int32)
  | 0, _, _ => none
  | n + 1, v2, v3 => if (m_rows τ) ≤ v3 then some (v2) else gd (vp_in v3 5) (if ((m_pivot τ) v3.toNatClampNeg) = v1 then lM_rowAt_4 F τ v1 n v3 (v3 + 1) else lM_rowAt_4 F τ v1 n v2 (v3 + 1))
set_option maxHeartbeats 4000000 in
set_option maxRecDepth 100000 in
theorem lM_rowAt_4_ok {g : Gm} {κ : ctx} (G : OK g κ RM cM_rowAt 4 (some .int) rm_M_rowAt) (X : Nat → va_E) (F : Nat) (τ : MS) (v1 : Int32) : ∀ (n : Nat) (v2 : Int32) (v3 : Int32) (out : Int32), lM_rowAt_4 F τ v1 n v2 v3 = some out → (J g κ 4 34 [(2, .int out)] [] (LM κ τ X)) → J g κ 4 4 [(0, .ref (κ.1 0)), (1, .int v1), (2, .int v2), (3, .int v3)] [] (LM κ τ X) := by
  intro n
  induction n with
  | zero =>
    intro v2 v3
    intro out h
    rw [lM_rowAt_4] at h
    cases h
  | succ n ih =>
    intro v2 v3 out h K
    rw [lM_rowAt_4] at h
    refine w_iload_n (pc := 4) (q := 3) G dM_rowAt_4 rfl rfl ?_
    refine w_aload_n (pc := 5) (q := 0) G dM_rowAt_5 rfl rfl ?_
    refine w_get (pc := 6) (v := .int (m_rows τ)) (fs := mfl κ τ) G 0 (by decide) rfl rfl wsM_ok 4 (by decide) wd494 rfl dM_rowAt_6 ?_
    refine w_icmp_ge (pc := 9) (tgt := 34) G dM_rowAt_9 (by decide) (fun c9 => ?_) (fun c9 => ?_)
    · have h := if_t c9 h
      obtain rfl := Option.some.inj h
      refine w_sub (lv' := [(2, .int v2)]) [2] rfl ?_
      exact K
    · have h := if_f c9 h
      refine w_aload_n (pc := 12) (q := 0) G dM_rowAt_12 rfl rfl ?_
      refine w_get (pc := 13) (v := .ref (κ.1 3)) (fs := mfl κ τ) G 0 (by decide) rfl rfl wsM_ok 6 (by decide) wd496 rfl dM_rowAt_13 ?_
      refine w_iload_n (pc := 16) (q := 3) G dM_rowAt_16 rfl rfl ?_
      obtain ⟨i17, h⟩ := gd_some h
      refine w_iald (pc := 17) (n := 5) (f := (m_pivot τ)) G 3 (by decide) rfl i17 dM_rowAt_17 ?_
      refine w_iload_n (pc := 18) (q := 1) G dM_rowAt_18 rfl rfl ?_
      refine w_icmp_ne (pc := 19) (tgt := 26) G dM_rowAt_19 (by decide) (fun c19 => ?_) (fun c19 => ?_)
      · have h := if_t c19 h
        refine w_iload_n (pc := 22) (q := 3) G dM_rowAt_22 rfl rfl ?_
        refine w_goto (pc := 23) (tgt := 27) G dM_rowAt_23 (by decide) ?_
        refine w_istore_n (pc := 27) (lv' := [(2, .int v3), (0, .ref (κ.1 0)), (1, .int v1), (3, .int v3)]) G dM_rowAt_27 rfl (by decide) rfl ?_
        refine w_iinc (pc := 28) (q0 := 3) (v := (v3 + 1)) (lv' := [(3, .int (v3 + 1)), (2, .int v3), (0, .ref (κ.1 0)), (1, .int v1)]) G dM_rowAt_28 rfl rfl (by decide) rfl ?_
        refine w_goto (pc := 31) (tgt := 4) G dM_rowAt_31 (by decide) ?_
        refine w_sub (lv' := [(0, .ref (κ.1 0)), (1, .int v1), (2, .int v3), (3, .int (v3 + 1))]) [2, 3, 1, 0] rfl ?_
        exact ih v3 (v3 + 1) out h K
      · have h := if_f c19 h
        refine w_iload_n (pc := 26) (q := 2) G dM_rowAt_26 rfl rfl ?_
        refine w_istore_n (pc := 27) (lv' := [(2, .int v2), (0, .ref (κ.1 0)), (1, .int v1), (3, .int v3)]) G dM_rowAt_27 rfl (by decide) rfl ?_
        refine w_iinc (pc := 28) (q0 := 3) (v := (v3 + 1)) (lv' := [(3, .int (v3 + 1)), (2, .int v2), (0, .ref (κ.1 0)), (1, .int v1)]) G dM_rowAt_28 rfl rfl (by decide) rfl ?_
        refine w_goto (pc := 31) (tgt := 4) G dM_rowAt_31 (by decide) ?_
        refine w_sub (lv' := [(0, .ref (κ.1 0)), (1, .int v1), (2, .int v2), (3, .int (v3 + 1))]) [2, 3, 1, 0] rfl ?_
        exact ih v2 (v3 + 1) out h K
noncomputable def M_rowAt (F : Nat) (τ : MS) (v1 : Int32) : Option (Int32) := (lM_rowAt_4 F τ v1 F (-1 : Int32) (0 : Int32)).bind (fun o4_6 => some o4_6)
set_option maxHeartbeats 4000000 in
set_option maxRecDepth 100000 in
theorem met_M_rowAt (κ : ctx) (X : Nat → va_E) (F : Nat) (τ : MS) (v1 : Int32) {out : Int32} (h : M_rowAt F τ v1 = some out) : Mt yM_rowAt cM_rowAt 4 (some .int) rm_M_rowAt κ [.ref (κ.1 0), .int v1] (LM κ τ X) (some (.int out)) (LM κ τ X) := by
  refine Mt.of (by decide) (Nat.le_of_ble_eq_true rfl) ?_
  intro g G Fh
  unfold M_rowAt at h
  show J g κ 4 0 [(0, .ref (κ.1 0)), (1, .int v1)] [] (LM κ τ X)
  refine w_iconst (pc := 0) (v := (-1 : Int32)) G dM_rowAt_0 (by decide) ?_
  refine w_istore_n (pc := 1) (lv' := [(2, .int (-1 : Int32)), (0, .ref (κ.1 0)), (1, .int v1)]) G dM_rowAt_1 rfl (by decide) rfl ?_
  refine w_iconst (pc := 2) (v := (0 : Int32)) G dM_rowAt_2 (by decide) ?_
  refine w_istore_n (pc := 3) (lv' := [(3, .int (0 : Int32)), (2, .int (-1 : Int32)), (0, .ref (κ.1 0)), (1, .int v1)]) G dM_rowAt_3 rfl (by decide) rfl ?_
  refine w_sub (lv' := [(0, .ref (κ.1 0)), (1, .int v1), (2, .int (-1 : Int32)), (3, .int (0 : Int32))]) [2, 3, 1, 0] rfl ?_
  obtain ⟨o4_6, eo4_6, h⟩ := bd h
  refine lM_rowAt_4_ok G X F τ v1 F (-1 : Int32) (0 : Int32) o4_6 eo4_6 ?_
  refine w_iload_n (pc := 34) (q := 0) G dM_rowAt_34 rfl rfl ?_
  obtain rfl := Option.some.inj h
  exact w_iret (pc := 35) G dM_rowAt_35 Fh
def rm_M_under : Room := { frames := 0, cells := 0, slots := 0, locals := 0 }
theorem dM_under_0 : decode cM_under 0 = .ok (.lload_n 0, 1) := by decide +kernel
theorem dM_under_1 : decode cM_under 1 = .ok (.lload_n 2, 1) := by decide +kernel
theorem dM_under_2 : decode cM_under 2 = .ok (.ldiv, 1) := by decide +kernel
theorem dM_under_3 : decode cM_under 3 = .ok (.lstore 4, 2) := by decide +kernel
theorem dM_under_5 : decode cM_under 5 = .ok (.lload_n 0, 1) := by decide +kernel
theorem dM_under_6 : decode cM_under 6 = .ok (.lload_n 2, 1) := by decide +kernel
theorem dM_under_7 : decode cM_under 7 = .ok (.lrem, 1) := by decide +kernel
theorem dM_under_8 : decode cM_under 8 = .ok (.lconst 0, 1) := by decide +kernel
theorem dM_under_9 : decode cM_under 9 = .ok (.lcmp, 1) := by decide +kernel
theorem dM_under_10 : decode cM_under 10 = .ok (.ifCond .eq 35, 3) := by decide +kernel
theorem dM_under_13 : decode cM_under 13 = .ok (.lload_n 0, 1) := by decide +kernel
theorem dM_under_14 : decode cM_under 14 = .ok (.lconst 0, 1) := by decide +kernel
theorem dM_under_15 : decode cM_under 15 = .ok (.lcmp, 1) := by decide +kernel
theorem dM_under_16 : decode cM_under 16 = .ok (.ifCond .ge 7, 3) := by decide +kernel
theorem dM_under_19 : decode cM_under 19 = .ok (.iconst 1, 1) := by decide +kernel
theorem dM_under_20 : decode cM_under 20 = .ok (.goto 4, 3) := by decide +kernel
theorem dM_under_23 : decode cM_under 23 = .ok (.iconst 0, 1) := by decide +kernel
theorem dM_under_24 : decode cM_under 24 = .ok (.lload_n 2, 1) := by decide +kernel
theorem dM_under_25 : decode cM_under 25 = .ok (.lconst 0, 1) := by decide +kernel
theorem dM_under_26 : decode cM_under 26 = .ok (.lcmp, 1) := by decide +kernel
theorem dM_under_27 : decode cM_under 27 = .ok (.ifCond .ge 7, 3) := by decide +kernel
theorem dM_under_30 : decode cM_under 30 = .ok (.iconst 1, 1) := by decide +kernel
theorem dM_under_31 : decode cM_under 31 = .ok (.goto 4, 3) := by decide +kernel
theorem dM_under_34 : decode cM_under 34 = .ok (.iconst 0, 1) := by decide +kernel
theorem dM_under_35 : decode cM_under 35 = .ok (.if_icmp .eq 10, 3) := by decide +kernel
theorem dM_under_38 : decode cM_under 38 = .ok (.lload 4, 2) := by decide +kernel
theorem dM_under_40 : decode cM_under 40 = .ok (.lconst 1, 1) := by decide +kernel
theorem dM_under_41 : decode cM_under 41 = .ok (.lsub, 1) := by decide +kernel
theorem dM_under_42 : decode cM_under 42 = .ok (.goto 5, 3) := by decide +kernel
theorem dM_under_45 : decode cM_under 45 = .ok (.lload 4, 2) := by decide +kernel
theorem dM_under_47 : decode cM_under 47 = .ok (.lreturn, 1) := by decide +kernel
noncomputable def M_under (F : Nat) (v0 : Int64) (v2 : Int64) : Option (Int64) := gd (¬ v2 = 0) (gd (¬ v2 = 0) (if (v0 - v0 / v2 * v2) = (0 : Int64) then some (v0 / v2) else if (0 : Int64) ≤ v0 then if (0 : Int64) ≤ v2 then some (v0 / v2) else some ((v0 / v2) - (1 : Int64)) else if (0 : Int64) ≤ v2 then some ((v0 / v2) - (1 : Int64)) else some (v0 / v2)))
set_option maxHeartbeats 4000000 in
set_option maxRecDepth 100000 in
theorem met_M_under (κ : ctx) (L : Nat → va_E) (F : Nat) (v0 : Int64) (v2 : Int64) {out : Int64} (h : M_under F v0 v2 = some out) : Mt yM_under cM_under 6 (some .long) rm_M_under κ [.long v0, .long v2] L (some (.long out)) L := by
  refine Mt.of (by decide) (Nat.le_of_ble_eq_true rfl) ?_
  intro g G Fh
  unfold M_under at h
  show J g κ 6 0 [(0, .long v0), (2, .long v2)] [] L
  refine w_lload_n (pc := 0) (q := 0) G dM_under_0 rfl rfl ?_
  refine w_lload_n (pc := 1) (q := 1) G dM_under_1 rfl rfl ?_
  obtain ⟨z2, h⟩ := gd_some h
  refine w_ldiv (pc := 2) G dM_under_2 z2 ?_
  refine w_lstore (pc := 3) (lv' := [(4, .long (v0 / v2)), (0, .long v0), (2, .long v2)]) G dM_under_3 (by decide) rfl ?_
  refine w_lload_n (pc := 5) (q := 1) G dM_under_5 rfl rfl ?_
  refine w_lload_n (pc := 6) (q := 2) G dM_under_6 rfl rfl ?_
  obtain ⟨z7, h⟩ := gd_some h
  refine w_lrem (pc := 7) G dM_under_7 z7 ?_
  refine w_lconst (pc := 8) (v := (0 : Int64)) G dM_under_8 (by decide) ?_
  refine w_lc_eq (pc := 9) (tgt := 45) G dM_under_9 dM_under_10 (by decide) (fun c9 => ?_) (fun c9 => ?_)
  · have h := if_t c9 h
    refine w_lload (pc := 45) (q := 0) G dM_under_45 rfl ?_
    obtain rfl := Option.some.inj h
    exact w_lret (pc := 47) G dM_under_47 Fh
  · have h := if_f c9 h
    refine w_lload_n (pc := 13) (q := 1) G dM_under_13 rfl rfl ?_
    refine w_lconst (pc := 14) (v := (0 : Int64)) G dM_under_14 (by decide) ?_
    refine w_lc_ge (pc := 15) (tgt := 23) G dM_under_15 dM_under_16 (by decide) (fun c15 => ?_) (fun c15 => ?_)
    · have h := if_t c15 h
      refine w_iconst (pc := 23) (v := (0 : Int32)) G dM_under_23 (by decide) ?_
      refine w_lload_n (pc := 24) (q := 2) G dM_under_24 rfl rfl ?_
      refine w_lconst (pc := 25) (v := (0 : Int64)) G dM_under_25 (by decide) ?_
      refine w_lc_ge (pc := 26) (tgt := 34) G dM_under_26 dM_under_27 (by decide) (fun c26 => ?_) (fun c26 => ?_)
      · have h := if_t c26 h
        refine w_iconst (pc := 34) (v := (0 : Int32)) G dM_under_34 (by decide) ?_
        refine w_icmp_eq (pc := 35) (tgt := 45) G dM_under_35 (by decide) (fun _ => ?_) (fun c => absurd (by decide) c)
        refine w_lload (pc := 45) (q := 0) G dM_under_45 rfl ?_
        obtain rfl := Option.some.inj h
        exact w_lret (pc := 47) G dM_under_47 Fh
      · have h := if_f c26 h
        refine w_iconst (pc := 30) (v := (1 : Int32)) G dM_under_30 (by decide) ?_
        refine w_goto (pc := 31) (tgt := 35) G dM_under_31 (by decide) ?_
        refine w_icmp_eq (pc := 35) (tgt := 45) G dM_under_35 (by decide) (fun c => absurd c (by decide)) (fun _ => ?_)
        refine w_lload (pc := 38) (q := 0) G dM_under_38 rfl ?_
        refine w_lconst (pc := 40) (v := (1 : Int64)) G dM_under_40 (by decide) ?_
        refine w_lsub (pc := 41) G dM_under_41 ?_
        refine w_goto (pc := 42) (tgt := 47) G dM_under_42 (by decide) ?_
        obtain rfl := Option.some.inj h
        exact w_lret (pc := 47) G dM_under_47 Fh
    · have h := if_f c15 h
      refine w_iconst (pc := 19) (v := (1 : Int32)) G dM_under_19 (by decide) ?_
      refine w_goto (pc := 20) (tgt := 24) G dM_under_20 (by decide) ?_
      refine w_lload_n (pc := 24) (q := 2) G dM_under_24 rfl rfl ?_
      refine w_lconst (pc := 25) (v := (0 : Int64)) G dM_under_25 (by decide) ?_
      refine w_lc_ge (pc := 26) (tgt := 34) G dM_under_26 dM_under_27 (by decide) (fun c26 => ?_) (fun c26 => ?_)
      · have h := if_t c26 h
        refine w_iconst (pc := 34) (v := (0 : Int32)) G dM_under_34 (by decide) ?_
        refine w_icmp_eq (pc := 35) (tgt := 45) G dM_under_35 (by decide) (fun c => absurd c (by decide)) (fun _ => ?_)
        refine w_lload (pc := 38) (q := 0) G dM_under_38 rfl ?_
        refine w_lconst (pc := 40) (v := (1 : Int64)) G dM_under_40 (by decide) ?_
        refine w_lsub (pc := 41) G dM_under_41 ?_
        refine w_goto (pc := 42) (tgt := 47) G dM_under_42 (by decide) ?_
        obtain rfl := Option.some.inj h
        exact w_lret (pc := 47) G dM_under_47 Fh
      · have h := if_f c26 h
        refine w_iconst (pc := 30) (v := (1 : Int32)) G dM_under_30 (by decide) ?_
        refine w_goto (pc := 31) (tgt := 35) G dM_under_31 (by decide) ?_
        refine w_icmp_eq (pc := 35) (tgt := 45) G dM_under_35 (by decide) (fun _ => ?_) (fun c => absurd (by decide) c)
        refine w_lload (pc := 45) (q := 0) G dM_under_45 rfl ?_
        obtain rfl := Option.some.inj h
        exact w_lret (pc := 47) G dM_under_47 Fh
def rm_M_tidy : Room := { frames := 1, cells := 0, slots := 0, locals := 25 }
theorem dM_tidy_0 : decode cM_tidy 0 = .ok (.iload_n 1, 1) := by decide +kernel
theorem dM_tidy_1 : decode cM_tidy 1 = .ok (.iconst 1, 1) := by decide +kernel
theorem dM_tidy_2 : decode cM_tidy 2 = .ok (.iadd, 1) := by decide +kernel
theorem dM_tidy_3 : decode cM_tidy 3 = .ok (.istore_n 2, 1) := by decide +kernel
theorem dM_tidy_4 : decode cM_tidy 4 = .ok (.iload_n 2, 1) := by decide +kernel
theorem dM_tidy_5 : decode cM_tidy 5 = .ok (.iconst 4, 1) := by decide +kernel
theorem dM_tidy_6 : decode cM_tidy 6 = .ok (.if_icmp .ge 79, 3) := by decide +kernel
theorem dM_tidy_9 : decode cM_tidy 9 = .ok (.aload_n 0, 1) := by decide +kernel
theorem dM_tidy_10 : decode cM_tidy 10 = .ok (.iload_n 2, 1) := by decide +kernel
theorem dM_tidy_11 : decode cM_tidy 11 = .ok (.invokevirtual 77, 3) := by decide +kernel
theorem dM_tidy_14 : decode cM_tidy 14 = .ok (.istore_n 3, 1) := by decide +kernel
theorem dM_tidy_15 : decode cM_tidy 15 = .ok (.iload_n 3, 1) := by decide +kernel
theorem dM_tidy_16 : decode cM_tidy 16 = .ok (.ifCond .lt 63, 3) := by decide +kernel
theorem dM_tidy_19 : decode cM_tidy 19 = .ok (.aload_n 0, 1) := by decide +kernel
theorem dM_tidy_20 : decode cM_tidy 20 = .ok (.getfield 20, 3) := by decide +kernel
theorem dM_tidy_23 : decode cM_tidy 23 = .ok (.iload_n 2, 1) := by decide +kernel
theorem dM_tidy_24 : decode cM_tidy 24 = .ok (.laload, 1) := by decide +kernel
theorem dM_tidy_25 : decode cM_tidy 25 = .ok (.aload_n 0, 1) := by decide +kernel
theorem dM_tidy_26 : decode cM_tidy 26 = .ok (.getfield 13, 3) := by decide +kernel
theorem dM_tidy_29 : decode cM_tidy 29 = .ok (.iconst 4, 1) := by decide +kernel
theorem dM_tidy_30 : decode cM_tidy 30 = .ok (.iload_n 3, 1) := by decide +kernel
theorem dM_tidy_31 : decode cM_tidy 31 = .ok (.imul, 1) := by decide +kernel
theorem dM_tidy_32 : decode cM_tidy 32 = .ok (.iload_n 2, 1) := by decide +kernel
theorem dM_tidy_33 : decode cM_tidy 33 = .ok (.iadd, 1) := by decide +kernel
theorem dM_tidy_34 : decode cM_tidy 34 = .ok (.laload, 1) := by decide +kernel
theorem dM_tidy_35 : decode cM_tidy 35 = .ok (.invokestatic 81, 3) := by decide +kernel
theorem dM_tidy_38 : decode cM_tidy 38 = .ok (.lstore 4, 2) := by decide +kernel
theorem dM_tidy_40 : decode cM_tidy 40 = .ok (.iload_n 2, 1) := by decide +kernel
theorem dM_tidy_41 : decode cM_tidy 41 = .ok (.istore 6, 2) := by decide +kernel
theorem dM_tidy_43 : decode cM_tidy 43 = .ok (.iload 6, 2) := by decide +kernel
theorem dM_tidy_45 : decode cM_tidy 45 = .ok (.iconst 4, 1) := by decide +kernel
theorem dM_tidy_46 : decode cM_tidy 46 = .ok (.if_icmp .ge 33, 3) := by decide +kernel
theorem dM_tidy_49 : decode cM_tidy 49 = .ok (.aload_n 0, 1) := by decide +kernel
theorem dM_tidy_50 : decode cM_tidy 50 = .ok (.getfield 20, 3) := by decide +kernel
theorem dM_tidy_53 : decode cM_tidy 53 = .ok (.iload 6, 2) := by decide +kernel
theorem dM_tidy_55 : decode cM_tidy 55 = .ok (.dup2, 1) := by decide +kernel
theorem dM_tidy_56 : decode cM_tidy 56 = .ok (.laload, 1) := by decide +kernel
theorem dM_tidy_57 : decode cM_tidy 57 = .ok (.lload 4, 2) := by decide +kernel
theorem dM_tidy_59 : decode cM_tidy 59 = .ok (.aload_n 0, 1) := by decide +kernel
theorem dM_tidy_60 : decode cM_tidy 60 = .ok (.getfield 13, 3) := by decide +kernel
theorem dM_tidy_63 : decode cM_tidy 63 = .ok (.iconst 4, 1) := by decide +kernel
theorem dM_tidy_64 : decode cM_tidy 64 = .ok (.iload_n 3, 1) := by decide +kernel
theorem dM_tidy_65 : decode cM_tidy 65 = .ok (.imul, 1) := by decide +kernel
theorem dM_tidy_66 : decode cM_tidy 66 = .ok (.iload 6, 2) := by decide +kernel
theorem dM_tidy_68 : decode cM_tidy 68 = .ok (.iadd, 1) := by decide +kernel
theorem dM_tidy_69 : decode cM_tidy 69 = .ok (.laload, 1) := by decide +kernel
theorem dM_tidy_70 : decode cM_tidy 70 = .ok (.lmul, 1) := by decide +kernel
theorem dM_tidy_71 : decode cM_tidy 71 = .ok (.lsub, 1) := by decide +kernel
theorem dM_tidy_72 : decode cM_tidy 72 = .ok (.lastore, 1) := by decide +kernel
theorem dM_tidy_73 : decode cM_tidy 73 = .ok (.iinc 6 1, 3) := by decide +kernel
theorem dM_tidy_76 : decode cM_tidy 76 = .ok (.goto (-33), 3) := by decide +kernel
theorem dM_tidy_79 : decode cM_tidy 79 = .ok (.iinc 2 1, 3) := by decide +kernel
theorem dM_tidy_82 : decode cM_tidy 82 = .ok (.goto (-78), 3) := by decide +kernel
theorem dM_tidy_85 : decode cM_tidy 85 = .ok (.return_, 1) := by decide +kernel
theorem cb_M_rowAt_M_tidy : CB yM_rowAt cM_rowAt 4 (some .int) rm_M_rowAt rm_M_tidy 1 := ⟨wd606, wd8, by decide +kernel, rfl, rfl, by decide⟩
theorem cb_M_under_M_tidy : CB yM_under cM_under 6 (some .long) rm_M_under rm_M_tidy 2 := ⟨wd613, wd8, by decide +kernel, rfl, rfl, by decide⟩
noncomputable def lM_tidy_43 (F : Nat) (v2 : Int32) (v3 : Int32) (v4 : Int64) : Nat → Int32 → MS → Option (MS)
  | 0, _, _ => none
  | n + 1, v6, τ => if (4 : Int32) ≤ v6 then some (τ) else gd (vp_in v6 4) (gd (vp_in (((4 : Int32) * v3) + v6) 16) (gd (vp_in v6 4) (lM_tidy_43 F v2 v3 v4 n (v6 + 1) (s_fresh τ (vp_updL (m_fresh τ) v6.toNatClampNeg (((m_fresh τ) v6.toNatClampNeg) - (v4 * ((m_row τ) (((4 : Int32) * v3) + v6).toNatClampNeg))))))))
set_option maxHeartbeats 4000000 in
set_option maxRecDepth 100000 in
theorem lM_tidy_43_ok {g : Gm} {κ : ctx} (G : OK g κ RM cM_tidy 7 none rm_M_tidy) (X : Nat → va_E) (F : Nat) (v2 : Int32) (v3 : Int32) (v4 : Int64) : ∀ (n : Nat) (v6 : Int32) (τ : MS) (out : MS), lM_tidy_43 F v2 v3 v4 n v6 τ = some out → (J g κ 7 79 [(0, .ref (κ.1 0)), (2, .int v2)] [] (LM κ out X)) → J g κ 7 43 [(0, .ref (κ.1 0)), (2, .int v2), (3, .int v3), (4, .long v4), (6, .int v6)] [] (LM κ τ X) := by
  intro n
  induction n with
  | zero =>
    intro v6 τ
    intro out h
    rw [lM_tidy_43] at h
    cases h
  | succ n ih =>
    intro v6 τ out h K
    rw [lM_tidy_43] at h
    refine w_iload (pc := 43) (q := 4) G dM_tidy_43 rfl ?_
    refine w_iconst (pc := 45) (v := (4 : Int32)) G dM_tidy_45 (by decide) ?_
    refine w_icmp_ge (pc := 46) (tgt := 79) G dM_tidy_46 (by decide) (fun c46 => ?_) (fun c46 => ?_)
    · have h := if_t c46 h
      obtain rfl := Option.some.inj h
      refine w_sub (lv' := [(0, .ref (κ.1 0)), (2, .int v2)]) [0, 1] rfl ?_
      exact K
    · have h := if_f c46 h
      refine w_aload_n (pc := 49) (q := 0) G dM_tidy_49 rfl rfl ?_
      refine w_get (pc := 50) (v := .ref (κ.1 4)) (fs := mfl κ τ) G 0 (by decide) rfl rfl wsM_ok 7 (by decide) wd497 rfl dM_tidy_50 ?_
      refine w_iload (pc := 53) (q := 4) G dM_tidy_53 rfl ?_
      refine w_dup2_11 (pc := 55) G dM_tidy_55 rfl rfl ?_
      obtain ⟨i56, h⟩ := gd_some h
      refine w_lald (pc := 56) (n := 4) (f := (m_fresh τ)) G 4 (by decide) rfl i56 dM_tidy_56 ?_
      refine w_lload (pc := 57) (q := 3) G dM_tidy_57 rfl ?_
      refine w_aload_n (pc := 59) (q := 0) G dM_tidy_59 rfl rfl ?_
      refine w_get (pc := 60) (v := .ref (κ.1 2)) (fs := mfl κ τ) G 0 (by decide) rfl rfl wsM_ok 5 (by decide) wd495 rfl dM_tidy_60 ?_
      refine w_iconst (pc := 63) (v := (4 : Int32)) G dM_tidy_63 (by decide) ?_
      refine w_iload_n (pc := 64) (q := 2) G dM_tidy_64 rfl rfl ?_
      refine w_imul (pc := 65) G dM_tidy_65 ?_
      refine w_iload (pc := 66) (q := 4) G dM_tidy_66 rfl ?_
      refine w_iadd (pc := 68) G dM_tidy_68 ?_
      obtain ⟨i69, h⟩ := gd_some h
      refine w_lald (pc := 69) (n := 16) (f := (m_row τ)) G 2 (by decide) rfl i69 dM_tidy_69 ?_
      refine w_lmul (pc := 70) G dM_tidy_70 ?_
      refine w_lsub (pc := 71) G dM_tidy_71 ?_
      obtain ⟨i72, h⟩ := gd_some h
      refine w_last (pc := 72) (n := 4) (f := (m_fresh τ)) (L1 := (LM κ (s_fresh τ (vp_updL (m_fresh τ) v6.toNatClampNeg (((m_fresh τ) v6.toNatClampNeg) - (v4 * ((m_row τ) (((4 : Int32) * v3) + v6).toNatClampNeg))))) X)) G 4 (by decide) rfl i72 dM_tidy_72 (LM_fresh κ τ X _) ?_
      refine w_iinc (pc := 73) (q0 := 4) (v := (v6 + 1)) (lv' := [(6, .int (v6 + 1)), (0, .ref (κ.1 0)), (2, .int v2), (3, .int v3), (4, .long v4)]) G dM_tidy_73 rfl rfl (by decide) rfl ?_
      refine w_goto (pc := 76) (tgt := 43) G dM_tidy_76 (by decide) ?_
      refine w_sub (lv' := [(0, .ref (κ.1 0)), (2, .int v2), (3, .int v3), (4, .long v4), (6, .int (v6 + 1))]) [1, 2, 3, 4, 0] rfl ?_
      exact ih (v6 + 1) (s_fresh τ (vp_updL (m_fresh τ) v6.toNatClampNeg (((m_fresh τ) v6.toNatClampNeg) - (v4 * ((m_row τ) (((4 : Int32) * v3) + v6).toNatClampNeg))))) out h K
noncomputable def lM_tidy_4 (F : Nat)  : Nat → Int32 → MS → Option (MS)
  | 0, _, _ => none
  | n + 1, v2, τ => if (4 : Int32) ≤ v2 then some (τ) else (M_rowAt F τ v2).bind (fun r11 => if r11 < 0 then lM_tidy_4 F  n (v2 + 1) τ else gd (vp_in v2 4) (gd (vp_in (((4 : Int32) * r11) + v2) 16) ((M_under F ((m_fresh τ) v2.toNatClampNeg) ((m_row τ) (((4 : Int32) * r11) + v2).toNatClampNeg)).bind (fun r35 => (lM_tidy_43 F v2 r11 r35 F v2 τ).bind (fun o43_9 => lM_tidy_4 F  n (v2 + 1) o43_9)))))
set_option maxHeartbeats 4000000 in
set_option maxRecDepth 100000 in
theorem lM_tidy_4_ok {g : Gm} {κ : ctx} (G : OK g κ RM cM_tidy 7 none rm_M_tidy) (X : Nat → va_E) (F : Nat)  : ∀ (n : Nat) (v2 : Int32) (τ : MS) (out : MS), lM_tidy_4 F  n v2 τ = some out → (J g κ 7 85 [] [] (LM κ out X)) → J g κ 7 4 [(0, .ref (κ.1 0)), (2, .int v2)] [] (LM κ τ X) := by
  intro n
  induction n with
  | zero =>
    intro v2 τ
    intro out h
    rw [lM_tidy_4] at h
    cases h
  | succ n ih =>
    intro v2 τ out h K
    rw [lM_tidy_4] at h
    refine w_iload_n (pc := 4) (q := 1) G dM_tidy_4 rfl rfl ?_
    refine w_iconst (pc := 5) (v := (4 : Int32)) G dM_tidy_5 (by decide) ?_
    refine w_icmp_ge (pc := 6) (tgt := 85) G dM_tidy_6 (by decide) (fun c6 => ?_) (fun c6 => ?_)
    · have h := if_t c6 h
      obtain rfl := Option.some.inj h
      refine w_sub (lv' := []) [] rfl ?_
      exact K
    · have h := if_f c6 h
      refine w_aload_n (pc := 9) (q := 0) G dM_tidy_9 rfl rfl ?_
      refine w_iload_n (pc := 10) (q := 1) G dM_tidy_10 rfl rfl ?_
      obtain ⟨r11, e11, h⟩ := bd h
      refine w_callV (pc := 11) (av := [.int v2]) (rest := []) (v := some (.int r11)) (L' := (LM κ τ X)) (T := TM) (fs := mfl κ τ) G 0 0 27 (by decide) rfl rfl cb_M_rowAt_M_tidy wd605 ws22 wd603 (met_M_rowAt κ X F τ v2 e11) rfl rfl rfl (Nat.le_of_ble_eq_true rfl) dM_tidy_11 ?_
      refine w_istore_n (pc := 14) (lv' := [(3, .int r11), (0, .ref (κ.1 0)), (2, .int v2)]) G dM_tidy_14 rfl (by decide) rfl ?_
      refine w_iload_n (pc := 15) (q := 0) G dM_tidy_15 rfl rfl ?_
      refine w_if_lt (pc := 16) (tgt := 79) G dM_tidy_16 (by decide) (fun c16 => ?_) (fun c16 => ?_)
      · have h := if_t c16 h
        refine w_iinc (pc := 79) (q0 := 2) (v := (v2 + 1)) (lv' := [(2, .int (v2 + 1)), (3, .int r11), (0, .ref (κ.1 0))]) G dM_tidy_79 rfl rfl (by decide) rfl ?_
        refine w_goto (pc := 82) (tgt := 4) G dM_tidy_82 (by decide) ?_
        refine w_sub (lv' := [(0, .ref (κ.1 0)), (2, .int (v2 + 1))]) [2, 0] rfl ?_
        exact ih (v2 + 1) τ out h K
      · have h := if_f c16 h
        refine w_aload_n (pc := 19) (q := 1) G dM_tidy_19 rfl rfl ?_
        refine w_get (pc := 20) (v := .ref (κ.1 4)) (fs := mfl κ τ) G 0 (by decide) rfl rfl wsM_ok 7 (by decide) wd497 rfl dM_tidy_20 ?_
        refine w_iload_n (pc := 23) (q := 2) G dM_tidy_23 rfl rfl ?_
        obtain ⟨i24, h⟩ := gd_some h
        refine w_lald (pc := 24) (n := 4) (f := (m_fresh τ)) G 4 (by decide) rfl i24 dM_tidy_24 ?_
        refine w_aload_n (pc := 25) (q := 1) G dM_tidy_25 rfl rfl ?_
        refine w_get (pc := 26) (v := .ref (κ.1 2)) (fs := mfl κ τ) G 0 (by decide) rfl rfl wsM_ok 5 (by decide) wd495 rfl dM_tidy_26 ?_
        refine w_iconst (pc := 29) (v := (4 : Int32)) G dM_tidy_29 (by decide) ?_
        refine w_iload_n (pc := 30) (q := 0) G dM_tidy_30 rfl rfl ?_
        refine w_imul (pc := 31) G dM_tidy_31 ?_
        refine w_iload_n (pc := 32) (q := 2) G dM_tidy_32 rfl rfl ?_
        refine w_iadd (pc := 33) G dM_tidy_33 ?_
        obtain ⟨i34, h⟩ := gd_some h
        refine w_lald (pc := 34) (n := 16) (f := (m_row τ)) G 2 (by decide) rfl i34 dM_tidy_34 ?_
        obtain ⟨r35, e35, h⟩ := bd h
        refine w_callS (pc := 35) (av := [.long ((m_fresh τ) v2.toNatClampNeg), .long ((m_row τ) (((4 : Int32) * r11) + v2).toNatClampNeg)]) (rest := []) (v := some (.long r35)) (L' := (LM κ τ X)) G cb_M_under_M_tidy wd612 wd611 (met_M_under κ (LM κ τ X) F ((m_fresh τ) v2.toNatClampNeg) ((m_row τ) (((4 : Int32) * r11) + v2).toNatClampNeg) e35) rfl rfl rfl (Nat.le_of_ble_eq_true rfl) dM_tidy_35 ?_
        refine w_lstore (pc := 38) (lv' := [(4, .long r35), (3, .int r11), (0, .ref (κ.1 0)), (2, .int v2)]) G dM_tidy_38 (by decide) rfl ?_
        refine w_iload_n (pc := 40) (q := 3) G dM_tidy_40 rfl rfl ?_
        refine w_istore (pc := 41) (lv' := [(6, .int v2), (4, .long r35), (3, .int r11), (0, .ref (κ.1 0)), (2, .int v2)]) G dM_tidy_41 (by decide) rfl ?_
        refine w_sub (lv' := [(0, .ref (κ.1 0)), (2, .int v2), (3, .int r11), (4, .long r35), (6, .int v2)]) [3, 4, 2, 1, 0] rfl ?_
        obtain ⟨o43_9, eo43_9, h⟩ := bd h
        refine lM_tidy_43_ok G X F v2 r11 r35 F v2 τ o43_9 eo43_9 ?_
        refine w_iinc (pc := 79) (q0 := 1) (v := (v2 + 1)) (lv' := [(2, .int (v2 + 1)), (0, .ref (κ.1 0))]) G dM_tidy_79 rfl rfl (by decide) rfl ?_
        refine w_goto (pc := 82) (tgt := 4) G dM_tidy_82 (by decide) ?_
        refine w_sub (lv' := [(0, .ref (κ.1 0)), (2, .int (v2 + 1))]) [1, 0] rfl ?_
        exact ih (v2 + 1) o43_9 out h K
noncomputable def M_tidy (F : Nat) (τ : MS) (v1 : Int32) : Option (MS) := (lM_tidy_4 F  F (v1 + (1 : Int32)) τ).bind (fun o4_9 => some o4_9)
set_option maxHeartbeats 4000000 in
set_option maxRecDepth 100000 in
theorem met_M_tidy (κ : ctx) (X : Nat → va_E) (F : Nat) (τ : MS) (v1 : Int32) {out : MS} (h : M_tidy F τ v1 = some out) : Mt yM_tidy cM_tidy 7 none rm_M_tidy κ [.ref (κ.1 0), .int v1] (LM κ τ X) none (LM κ out X) := by
  refine Mt.of (by decide) (Nat.le_of_ble_eq_true rfl) ?_
  intro g G Fh
  unfold M_tidy at h
  show J g κ 7 0 [(0, .ref (κ.1 0)), (1, .int v1)] [] (LM κ τ X)
  refine w_iload_n (pc := 0) (q := 1) G dM_tidy_0 rfl rfl ?_
  refine w_iconst (pc := 1) (v := (1 : Int32)) G dM_tidy_1 (by decide) ?_
  refine w_iadd (pc := 2) G dM_tidy_2 ?_
  refine w_istore_n (pc := 3) (lv' := [(2, .int (v1 + (1 : Int32))), (0, .ref (κ.1 0)), (1, .int v1)]) G dM_tidy_3 rfl (by decide) rfl ?_
  refine w_sub (lv' := [(0, .ref (κ.1 0)), (2, .int (v1 + (1 : Int32)))]) [1, 0] rfl ?_
  obtain ⟨o4_9, eo4_9, h⟩ := bd h
  refine lM_tidy_4_ok G X F  F (v1 + (1 : Int32)) τ o4_9 eo4_9 ?_
  obtain rfl := Option.some.inj h
  exact w_vret (pc := 85) G dM_tidy_85 Fh
def rm_M_insert : Room := { frames := 0, cells := 0, slots := 0, locals := 0 }
theorem dM_insert_0 : decode cM_insert 0 = .ok (.aload_n 0, 1) := by decide +kernel
theorem dM_insert_1 : decode cM_insert 1 = .ok (.getfield 74, 3) := by decide +kernel
theorem dM_insert_4 : decode cM_insert 4 = .ok (.istore_n 2, 1) := by decide +kernel
theorem dM_insert_5 : decode cM_insert 5 = .ok (.iload_n 2, 1) := by decide +kernel
theorem dM_insert_6 : decode cM_insert 6 = .ok (.ifCond .le 70, 3) := by decide +kernel
theorem dM_insert_9 : decode cM_insert 9 = .ok (.aload_n 0, 1) := by decide +kernel
theorem dM_insert_10 : decode cM_insert 10 = .ok (.getfield 17, 3) := by decide +kernel
theorem dM_insert_13 : decode cM_insert 13 = .ok (.iload_n 2, 1) := by decide +kernel
theorem dM_insert_14 : decode cM_insert 14 = .ok (.iconst 1, 1) := by decide +kernel
theorem dM_insert_15 : decode cM_insert 15 = .ok (.isub, 1) := by decide +kernel
theorem dM_insert_16 : decode cM_insert 16 = .ok (.iaload, 1) := by decide +kernel
theorem dM_insert_17 : decode cM_insert 17 = .ok (.iload_n 1, 1) := by decide +kernel
theorem dM_insert_18 : decode cM_insert 18 = .ok (.if_icmp .le 58, 3) := by decide +kernel
theorem dM_insert_21 : decode cM_insert 21 = .ok (.iconst 0, 1) := by decide +kernel
theorem dM_insert_22 : decode cM_insert 22 = .ok (.istore_n 3, 1) := by decide +kernel
theorem dM_insert_23 : decode cM_insert 23 = .ok (.iload_n 3, 1) := by decide +kernel
theorem dM_insert_24 : decode cM_insert 24 = .ok (.iconst 4, 1) := by decide +kernel
theorem dM_insert_25 : decode cM_insert 25 = .ok (.if_icmp .ge 31, 3) := by decide +kernel
theorem dM_insert_28 : decode cM_insert 28 = .ok (.aload_n 0, 1) := by decide +kernel
theorem dM_insert_29 : decode cM_insert 29 = .ok (.getfield 13, 3) := by decide +kernel
theorem dM_insert_32 : decode cM_insert 32 = .ok (.iconst 4, 1) := by decide +kernel
theorem dM_insert_33 : decode cM_insert 33 = .ok (.iload_n 2, 1) := by decide +kernel
theorem dM_insert_34 : decode cM_insert 34 = .ok (.imul, 1) := by decide +kernel
theorem dM_insert_35 : decode cM_insert 35 = .ok (.iload_n 3, 1) := by decide +kernel
theorem dM_insert_36 : decode cM_insert 36 = .ok (.iadd, 1) := by decide +kernel
theorem dM_insert_37 : decode cM_insert 37 = .ok (.aload_n 0, 1) := by decide +kernel
theorem dM_insert_38 : decode cM_insert 38 = .ok (.getfield 13, 3) := by decide +kernel
theorem dM_insert_41 : decode cM_insert 41 = .ok (.iconst 4, 1) := by decide +kernel
theorem dM_insert_42 : decode cM_insert 42 = .ok (.iload_n 2, 1) := by decide +kernel
theorem dM_insert_43 : decode cM_insert 43 = .ok (.imul, 1) := by decide +kernel
theorem dM_insert_44 : decode cM_insert 44 = .ok (.iconst 4, 1) := by decide +kernel
theorem dM_insert_45 : decode cM_insert 45 = .ok (.isub, 1) := by decide +kernel
theorem dM_insert_46 : decode cM_insert 46 = .ok (.iload_n 3, 1) := by decide +kernel
theorem dM_insert_47 : decode cM_insert 47 = .ok (.iadd, 1) := by decide +kernel
theorem dM_insert_48 : decode cM_insert 48 = .ok (.laload, 1) := by decide +kernel
theorem dM_insert_49 : decode cM_insert 49 = .ok (.lastore, 1) := by decide +kernel
theorem dM_insert_50 : decode cM_insert 50 = .ok (.iinc 3 1, 3) := by decide +kernel
theorem dM_insert_53 : decode cM_insert 53 = .ok (.goto (-30), 3) := by decide +kernel
theorem dM_insert_56 : decode cM_insert 56 = .ok (.aload_n 0, 1) := by decide +kernel
theorem dM_insert_57 : decode cM_insert 57 = .ok (.getfield 17, 3) := by decide +kernel
theorem dM_insert_60 : decode cM_insert 60 = .ok (.iload_n 2, 1) := by decide +kernel
theorem dM_insert_61 : decode cM_insert 61 = .ok (.aload_n 0, 1) := by decide +kernel
theorem dM_insert_62 : decode cM_insert 62 = .ok (.getfield 17, 3) := by decide +kernel
theorem dM_insert_65 : decode cM_insert 65 = .ok (.iload_n 2, 1) := by decide +kernel
theorem dM_insert_66 : decode cM_insert 66 = .ok (.iconst 1, 1) := by decide +kernel
theorem dM_insert_67 : decode cM_insert 67 = .ok (.isub, 1) := by decide +kernel
theorem dM_insert_68 : decode cM_insert 68 = .ok (.iaload, 1) := by decide +kernel
theorem dM_insert_69 : decode cM_insert 69 = .ok (.iastore, 1) := by decide +kernel
theorem dM_insert_70 : decode cM_insert 70 = .ok (.iinc 2 (-1), 3) := by decide +kernel
theorem dM_insert_73 : decode cM_insert 73 = .ok (.goto (-68), 3) := by decide +kernel
theorem dM_insert_76 : decode cM_insert 76 = .ok (.aload_n 0, 1) := by decide +kernel
theorem dM_insert_77 : decode cM_insert 77 = .ok (.dup, 1) := by decide +kernel
theorem dM_insert_78 : decode cM_insert 78 = .ok (.getfield 74, 3) := by decide +kernel
theorem dM_insert_81 : decode cM_insert 81 = .ok (.iconst 1, 1) := by decide +kernel
theorem dM_insert_82 : decode cM_insert 82 = .ok (.iadd, 1) := by decide +kernel
theorem dM_insert_83 : decode cM_insert 83 = .ok (.putfield 74, 3) := by decide +kernel
theorem dM_insert_86 : decode cM_insert 86 = .ok (.aload_n 0, 1) := by decide +kernel
theorem dM_insert_87 : decode cM_insert 87 = .ok (.getfield 17, 3) := by decide +kernel
theorem dM_insert_90 : decode cM_insert 90 = .ok (.iload_n 2, 1) := by decide +kernel
theorem dM_insert_91 : decode cM_insert 91 = .ok (.iload_n 1, 1) := by decide +kernel
theorem dM_insert_92 : decode cM_insert 92 = .ok (.iastore, 1) := by decide +kernel
theorem dM_insert_93 : decode cM_insert 93 = .ok (.iconst 0, 1) := by decide +kernel
theorem dM_insert_94 : decode cM_insert 94 = .ok (.istore_n 3, 1) := by decide +kernel
theorem dM_insert_95 : decode cM_insert 95 = .ok (.iload_n 3, 1) := by decide +kernel
theorem dM_insert_96 : decode cM_insert 96 = .ok (.iconst 4, 1) := by decide +kernel
theorem dM_insert_97 : decode cM_insert 97 = .ok (.if_icmp .ge 46, 3) := by decide +kernel
theorem dM_insert_100 : decode cM_insert 100 = .ok (.aload_n 0, 1) := by decide +kernel
theorem dM_insert_101 : decode cM_insert 101 = .ok (.getfield 13, 3) := by decide +kernel
theorem dM_insert_104 : decode cM_insert 104 = .ok (.iconst 4, 1) := by decide +kernel
theorem dM_insert_105 : decode cM_insert 105 = .ok (.iload_n 2, 1) := by decide +kernel
theorem dM_insert_106 : decode cM_insert 106 = .ok (.imul, 1) := by decide +kernel
theorem dM_insert_107 : decode cM_insert 107 = .ok (.iload_n 3, 1) := by decide +kernel
theorem dM_insert_108 : decode cM_insert 108 = .ok (.iadd, 1) := by decide +kernel
theorem dM_insert_109 : decode cM_insert 109 = .ok (.aload_n 0, 1) := by decide +kernel
theorem dM_insert_110 : decode cM_insert 110 = .ok (.getfield 20, 3) := by decide +kernel
theorem dM_insert_113 : decode cM_insert 113 = .ok (.iload_n 1, 1) := by decide +kernel
theorem dM_insert_114 : decode cM_insert 114 = .ok (.laload, 1) := by decide +kernel
theorem dM_insert_115 : decode cM_insert 115 = .ok (.lconst 0, 1) := by decide +kernel
theorem dM_insert_116 : decode cM_insert 116 = .ok (.lcmp, 1) := by decide +kernel
theorem dM_insert_117 : decode cM_insert 117 = .ok (.ifCond .ge 13, 3) := by decide +kernel
theorem dM_insert_120 : decode cM_insert 120 = .ok (.aload_n 0, 1) := by decide +kernel
theorem dM_insert_121 : decode cM_insert 121 = .ok (.getfield 20, 3) := by decide +kernel
theorem dM_insert_124 : decode cM_insert 124 = .ok (.iload_n 3, 1) := by decide +kernel
theorem dM_insert_125 : decode cM_insert 125 = .ok (.laload, 1) := by decide +kernel
theorem dM_insert_126 : decode cM_insert 126 = .ok (.lneg, 1) := by decide +kernel
theorem dM_insert_127 : decode cM_insert 127 = .ok (.goto 9, 3) := by decide +kernel
theorem dM_insert_130 : decode cM_insert 130 = .ok (.aload_n 0, 1) := by decide +kernel
theorem dM_insert_131 : decode cM_insert 131 = .ok (.getfield 20, 3) := by decide +kernel
theorem dM_insert_134 : decode cM_insert 134 = .ok (.iload_n 3, 1) := by decide +kernel
theorem dM_insert_135 : decode cM_insert 135 = .ok (.laload, 1) := by decide +kernel
theorem dM_insert_136 : decode cM_insert 136 = .ok (.lastore, 1) := by decide +kernel
theorem dM_insert_137 : decode cM_insert 137 = .ok (.iinc 3 1, 3) := by decide +kernel
theorem dM_insert_140 : decode cM_insert 140 = .ok (.goto (-45), 3) := by decide +kernel
theorem dM_insert_143 : decode cM_insert 143 = .ok (.return_, 1) := by decide +kernel
noncomputable def lM_insert_23 (F : Nat) (v1 : Int32) (v2 : Int32) : Nat → Int32 → MS → Option (MS)
  | 0, _, _ => none
  | n + 1, v3, τ => if (4 : Int32) ≤ v3 then some (τ) else gd (vp_in ((((4 : Int32) * v2) - (4 : Int32)) + v3) 16) (gd (vp_in (((4 : Int32) * v2) + v3) 16) (lM_insert_23 F v1 v2 n (v3 + 1) (s_row τ (vp_updL (m_row τ) (((4 : Int32) * v2) + v3).toNatClampNeg ((m_row τ) ((((4 : Int32) * v2) - (4 : Int32)) + v3).toNatClampNeg)))))
set_option maxHeartbeats 4000000 in
set_option maxRecDepth 100000 in
theorem lM_insert_23_ok {g : Gm} {κ : ctx} (G : OK g κ RM cM_insert 4 none rm_M_insert) (X : Nat → va_E) (F : Nat) (v1 : Int32) (v2 : Int32) : ∀ (n : Nat) (v3 : Int32) (τ : MS) (out : MS), lM_insert_23 F v1 v2 n v3 τ = some out → (J g κ 4 56 [(0, .ref (κ.1 0)), (1, .int v1), (2, .int v2)] [] (LM κ out X)) → J g κ 4 23 [(0, .ref (κ.1 0)), (1, .int v1), (2, .int v2), (3, .int v3)] [] (LM κ τ X) := by
  intro n
  induction n with
  | zero =>
    intro v3 τ
    intro out h
    rw [lM_insert_23] at h
    cases h
  | succ n ih =>
    intro v3 τ out h K
    rw [lM_insert_23] at h
    refine w_iload_n (pc := 23) (q := 3) G dM_insert_23 rfl rfl ?_
    refine w_iconst (pc := 24) (v := (4 : Int32)) G dM_insert_24 (by decide) ?_
    refine w_icmp_ge (pc := 25) (tgt := 56) G dM_insert_25 (by decide) (fun c25 => ?_) (fun c25 => ?_)
    · have h := if_t c25 h
      obtain rfl := Option.some.inj h
      refine w_sub (lv' := [(0, .ref (κ.1 0)), (1, .int v1), (2, .int v2)]) [0, 1, 2] rfl ?_
      exact K
    · have h := if_f c25 h
      refine w_aload_n (pc := 28) (q := 0) G dM_insert_28 rfl rfl ?_
      refine w_get (pc := 29) (v := .ref (κ.1 2)) (fs := mfl κ τ) G 0 (by decide) rfl rfl wsM_ok 5 (by decide) wd495 rfl dM_insert_29 ?_
      refine w_iconst (pc := 32) (v := (4 : Int32)) G dM_insert_32 (by decide) ?_
      refine w_iload_n (pc := 33) (q := 2) G dM_insert_33 rfl rfl ?_
      refine w_imul (pc := 34) G dM_insert_34 ?_
      refine w_iload_n (pc := 35) (q := 3) G dM_insert_35 rfl rfl ?_
      refine w_iadd (pc := 36) G dM_insert_36 ?_
      refine w_aload_n (pc := 37) (q := 0) G dM_insert_37 rfl rfl ?_
      refine w_get (pc := 38) (v := .ref (κ.1 2)) (fs := mfl κ τ) G 0 (by decide) rfl rfl wsM_ok 5 (by decide) wd495 rfl dM_insert_38 ?_
      refine w_iconst (pc := 41) (v := (4 : Int32)) G dM_insert_41 (by decide) ?_
      refine w_iload_n (pc := 42) (q := 2) G dM_insert_42 rfl rfl ?_
      refine w_imul (pc := 43) G dM_insert_43 ?_
      refine w_iconst (pc := 44) (v := (4 : Int32)) G dM_insert_44 (by decide) ?_
      refine w_isub (pc := 45) G dM_insert_45 ?_
      refine w_iload_n (pc := 46) (q := 3) G dM_insert_46 rfl rfl ?_
      refine w_iadd (pc := 47) G dM_insert_47 ?_
      obtain ⟨i48, h⟩ := gd_some h
      refine w_lald (pc := 48) (n := 16) (f := (m_row τ)) G 2 (by decide) rfl i48 dM_insert_48 ?_
      obtain ⟨i49, h⟩ := gd_some h
      refine w_last (pc := 49) (n := 16) (f := (m_row τ)) (L1 := (LM κ (s_row τ (vp_updL (m_row τ) (((4 : Int32) * v2) + v3).toNatClampNeg ((m_row τ) ((((4 : Int32) * v2) - (4 : Int32)) + v3).toNatClampNeg))) X)) G 2 (by decide) rfl i49 dM_insert_49 (LM_row κ τ X _) ?_
      refine w_iinc (pc := 50) (q0 := 3) (v := (v3 + 1)) (lv' := [(3, .int (v3 + 1)), (0, .ref (κ.1 0)), (1, .int v1), (2, .int v2)]) G dM_insert_50 rfl rfl (by decide) rfl ?_
      refine w_goto (pc := 53) (tgt := 23) G dM_insert_53 (by decide) ?_
      refine w_sub (lv' := [(0, .ref (κ.1 0)), (1, .int v1), (2, .int v2), (3, .int (v3 + 1))]) [1, 2, 3, 0] rfl ?_
      exact ih (v3 + 1) (s_row τ (vp_updL (m_row τ) (((4 : Int32) * v2) + v3).toNatClampNeg ((m_row τ) ((((4 : Int32) * v2) - (4 : Int32)) + v3).toNatClampNeg))) out h K
noncomputable def lM_insert_5 (F : Nat) (v1 : Int32) : Nat → Int32 → MS → Option (Int32 × MS)
  | 0, _, _ => none
  | n + 1, v2, τ => if v2 ≤ 0 then some (v2, τ) else gd (vp_in (v2 - (1 : Int32)) 5) (if ((m_pivot τ) (v2 - (1 : Int32)).toNatClampNeg) ≤ v1 then some (v2, τ) else (lM_insert_23 F v1 v2 F (0 : Int32) τ).bind (fun o23_9 => gd (vp_in (v2 - (1 : Int32)) 5) (gd (vp_in v2 5) (lM_insert_5 F v1 n (v2 + (-1)) (s_pivot o23_9 (upd (m_pivot o23_9) v2.toNatClampNeg ((m_pivot o23_9) (v2 - (1 : Int32)).toNatClampNeg)))))))
set_option maxHeartbeats 4000000 in
set_option maxRecDepth 100000 in
theorem lM_insert_5_ok {g : Gm} {κ : ctx} (G : OK g κ RM cM_insert 4 none rm_M_insert) (X : Nat → va_E) (F : Nat) (v1 : Int32) : ∀ (n : Nat) (v2 : Int32) (τ : MS) (out : Int32 × MS), lM_insert_5 F v1 n v2 τ = some out → (J g κ 4 76 [(0, .ref (κ.1 0)), (1, .int v1), (2, .int out.1)] [] (LM κ out.2 X)) → J g κ 4 5 [(0, .ref (κ.1 0)), (1, .int v1), (2, .int v2)] [] (LM κ τ X) := by
  intro n
  induction n with
  | zero =>
    intro v2 τ
    intro out h
    rw [lM_insert_5] at h
    cases h
  | succ n ih =>
    intro v2 τ out h K
    rw [lM_insert_5] at h
    refine w_iload_n (pc := 5) (q := 2) G dM_insert_5 rfl rfl ?_
    refine w_if_le (pc := 6) (tgt := 76) G dM_insert_6 (by decide) (fun c6 => ?_) (fun c6 => ?_)
    · have h := if_t c6 h
      obtain rfl := Option.some.inj h
      refine w_sub (lv' := [(0, .ref (κ.1 0)), (1, .int v1), (2, .int v2)]) [0, 1, 2] rfl ?_
      exact K
    · have h := if_f c6 h
      refine w_aload_n (pc := 9) (q := 0) G dM_insert_9 rfl rfl ?_
      refine w_get (pc := 10) (v := .ref (κ.1 3)) (fs := mfl κ τ) G 0 (by decide) rfl rfl wsM_ok 6 (by decide) wd496 rfl dM_insert_10 ?_
      refine w_iload_n (pc := 13) (q := 2) G dM_insert_13 rfl rfl ?_
      refine w_iconst (pc := 14) (v := (1 : Int32)) G dM_insert_14 (by decide) ?_
      refine w_isub (pc := 15) G dM_insert_15 ?_
      obtain ⟨i16, h⟩ := gd_some h
      refine w_iald (pc := 16) (n := 5) (f := (m_pivot τ)) G 3 (by decide) rfl i16 dM_insert_16 ?_
      refine w_iload_n (pc := 17) (q := 1) G dM_insert_17 rfl rfl ?_
      refine w_icmp_le (pc := 18) (tgt := 76) G dM_insert_18 (by decide) (fun c18 => ?_) (fun c18 => ?_)
      · have h := if_t c18 h
        obtain rfl := Option.some.inj h
        refine w_sub (lv' := [(0, .ref (κ.1 0)), (1, .int v1), (2, .int v2)]) [0, 1, 2] rfl ?_
        exact K
      · have h := if_f c18 h
        refine w_iconst (pc := 21) (v := (0 : Int32)) G dM_insert_21 (by decide) ?_
        refine w_istore_n (pc := 22) (lv' := [(3, .int (0 : Int32)), (0, .ref (κ.1 0)), (1, .int v1), (2, .int v2)]) G dM_insert_22 rfl (by decide) rfl ?_
        refine w_sub (lv' := [(0, .ref (κ.1 0)), (1, .int v1), (2, .int v2), (3, .int (0 : Int32))]) [1, 2, 3, 0] rfl ?_
        obtain ⟨o23_9, eo23_9, h⟩ := bd h
        refine lM_insert_23_ok G X F v1 v2 F (0 : Int32) τ o23_9 eo23_9 ?_
        refine w_aload_n (pc := 56) (q := 0) G dM_insert_56 rfl rfl ?_
        refine w_get (pc := 57) (v := .ref (κ.1 3)) (fs := mfl κ o23_9) G 0 (by decide) rfl rfl wsM_ok 6 (by decide) wd496 rfl dM_insert_57 ?_
        refine w_iload_n (pc := 60) (q := 2) G dM_insert_60 rfl rfl ?_
        refine w_aload_n (pc := 61) (q := 0) G dM_insert_61 rfl rfl ?_
        refine w_get (pc := 62) (v := .ref (κ.1 3)) (fs := mfl κ o23_9) G 0 (by decide) rfl rfl wsM_ok 6 (by decide) wd496 rfl dM_insert_62 ?_
        refine w_iload_n (pc := 65) (q := 2) G dM_insert_65 rfl rfl ?_
        refine w_iconst (pc := 66) (v := (1 : Int32)) G dM_insert_66 (by decide) ?_
        refine w_isub (pc := 67) G dM_insert_67 ?_
        obtain ⟨i68, h⟩ := gd_some h
        refine w_iald (pc := 68) (n := 5) (f := (m_pivot o23_9)) G 3 (by decide) rfl i68 dM_insert_68 ?_
        obtain ⟨i69, h⟩ := gd_some h
        refine w_iast (pc := 69) (n := 5) (f := (m_pivot o23_9)) (L1 := (LM κ (s_pivot o23_9 (upd (m_pivot o23_9) v2.toNatClampNeg ((m_pivot o23_9) (v2 - (1 : Int32)).toNatClampNeg))) X)) G 3 (by decide) rfl i69 dM_insert_69 (LM_pivot κ o23_9 X _) ?_
        refine w_iinc (pc := 70) (q0 := 2) (v := (v2 + (-1))) (lv' := [(2, .int (v2 + (-1))), (0, .ref (κ.1 0)), (1, .int v1)]) G dM_insert_70 rfl rfl (by decide) rfl ?_
        refine w_goto (pc := 73) (tgt := 5) G dM_insert_73 (by decide) ?_
        refine w_sub (lv' := [(0, .ref (κ.1 0)), (1, .int v1), (2, .int (v2 + (-1)))]) [1, 2, 0] rfl ?_
        exact ih (v2 + (-1)) (s_pivot o23_9 (upd (m_pivot o23_9) v2.toNatClampNeg ((m_pivot o23_9) (v2 - (1 : Int32)).toNatClampNeg))) out h K
noncomputable def lM_insert_95 (F : Nat) (v1 : Int32) (v2 : Int32) : Nat → Int32 → MS → Option (MS)
  | 0, _, _ => none
  | n + 1, v3, τ => if (4 : Int32) ≤ v3 then some (τ) else gd (vp_in v1 4) (if (0 : Int64) ≤ ((m_fresh τ) v1.toNatClampNeg) then gd (vp_in v3 4) (gd (vp_in (((4 : Int32) * v2) + v3) 16) (lM_insert_95 F v1 v2 n (v3 + 1) (s_row τ (vp_updL (m_row τ) (((4 : Int32) * v2) + v3).toNatClampNeg ((m_fresh τ) v3.toNatClampNeg))))) else gd (vp_in v3 4) (gd (vp_in (((4 : Int32) * v2) + v3) 16) (lM_insert_95 F v1 v2 n (v3 + 1) (s_row τ (vp_updL (m_row τ) (((4 : Int32) * v2) + v3).toNatClampNeg (-((m_fresh τ) v3.toNatClampNeg)))))))
set_option maxHeartbeats 4000000 in
set_option maxRecDepth 100000 in
theorem lM_insert_95_ok {g : Gm} {κ : ctx} (G : OK g κ RM cM_insert 4 none rm_M_insert) (X : Nat → va_E) (F : Nat) (v1 : Int32) (v2 : Int32) : ∀ (n : Nat) (v3 : Int32) (τ : MS) (out : MS), lM_insert_95 F v1 v2 n v3 τ = some out → (J g κ 4 143 [] [] (LM κ out X)) → J g κ 4 95 [(0, .ref (κ.1 0)), (1, .int v1), (2, .int v2), (3, .int v3)] [] (LM κ τ X) := by
  intro n
  induction n with
  | zero =>
    intro v3 τ
    intro out h
    rw [lM_insert_95] at h
    cases h
  | succ n ih =>
    intro v3 τ out h K
    rw [lM_insert_95] at h
    refine w_iload_n (pc := 95) (q := 3) G dM_insert_95 rfl rfl ?_
    refine w_iconst (pc := 96) (v := (4 : Int32)) G dM_insert_96 (by decide) ?_
    refine w_icmp_ge (pc := 97) (tgt := 143) G dM_insert_97 (by decide) (fun c97 => ?_) (fun c97 => ?_)
    · have h := if_t c97 h
      obtain rfl := Option.some.inj h
      refine w_sub (lv' := []) [] rfl ?_
      exact K
    · have h := if_f c97 h
      refine w_aload_n (pc := 100) (q := 0) G dM_insert_100 rfl rfl ?_
      refine w_get (pc := 101) (v := .ref (κ.1 2)) (fs := mfl κ τ) G 0 (by decide) rfl rfl wsM_ok 5 (by decide) wd495 rfl dM_insert_101 ?_
      refine w_iconst (pc := 104) (v := (4 : Int32)) G dM_insert_104 (by decide) ?_
      refine w_iload_n (pc := 105) (q := 2) G dM_insert_105 rfl rfl ?_
      refine w_imul (pc := 106) G dM_insert_106 ?_
      refine w_iload_n (pc := 107) (q := 3) G dM_insert_107 rfl rfl ?_
      refine w_iadd (pc := 108) G dM_insert_108 ?_
      refine w_aload_n (pc := 109) (q := 0) G dM_insert_109 rfl rfl ?_
      refine w_get (pc := 110) (v := .ref (κ.1 4)) (fs := mfl κ τ) G 0 (by decide) rfl rfl wsM_ok 7 (by decide) wd497 rfl dM_insert_110 ?_
      refine w_iload_n (pc := 113) (q := 1) G dM_insert_113 rfl rfl ?_
      obtain ⟨i114, h⟩ := gd_some h
      refine w_lald (pc := 114) (n := 4) (f := (m_fresh τ)) G 4 (by decide) rfl i114 dM_insert_114 ?_
      refine w_lconst (pc := 115) (v := (0 : Int64)) G dM_insert_115 (by decide) ?_
      refine w_lc_ge (pc := 116) (tgt := 130) G dM_insert_116 dM_insert_117 (by decide) (fun c116 => ?_) (fun c116 => ?_)
      · have h := if_t c116 h
        refine w_aload_n (pc := 130) (q := 0) G dM_insert_130 rfl rfl ?_
        refine w_get (pc := 131) (v := .ref (κ.1 4)) (fs := mfl κ τ) G 0 (by decide) rfl rfl wsM_ok 7 (by decide) wd497 rfl dM_insert_131 ?_
        refine w_iload_n (pc := 134) (q := 3) G dM_insert_134 rfl rfl ?_
        obtain ⟨i135, h⟩ := gd_some h
        refine w_lald (pc := 135) (n := 4) (f := (m_fresh τ)) G 4 (by decide) rfl i135 dM_insert_135 ?_
        obtain ⟨i136, h⟩ := gd_some h
        refine w_last (pc := 136) (n := 16) (f := (m_row τ)) (L1 := (LM κ (s_row τ (vp_updL (m_row τ) (((4 : Int32) * v2) + v3).toNatClampNeg ((m_fresh τ) v3.toNatClampNeg))) X)) G 2 (by decide) rfl i136 dM_insert_136 (LM_row κ τ X _) ?_
        refine w_iinc (pc := 137) (q0 := 3) (v := (v3 + 1)) (lv' := [(3, .int (v3 + 1)), (0, .ref (κ.1 0)), (1, .int v1), (2, .int v2)]) G dM_insert_137 rfl rfl (by decide) rfl ?_
        refine w_goto (pc := 140) (tgt := 95) G dM_insert_140 (by decide) ?_
        refine w_sub (lv' := [(0, .ref (κ.1 0)), (1, .int v1), (2, .int v2), (3, .int (v3 + 1))]) [1, 2, 3, 0] rfl ?_
        exact ih (v3 + 1) (s_row τ (vp_updL (m_row τ) (((4 : Int32) * v2) + v3).toNatClampNeg ((m_fresh τ) v3.toNatClampNeg))) out h K
      · have h := if_f c116 h
        refine w_aload_n (pc := 120) (q := 0) G dM_insert_120 rfl rfl ?_
        refine w_get (pc := 121) (v := .ref (κ.1 4)) (fs := mfl κ τ) G 0 (by decide) rfl rfl wsM_ok 7 (by decide) wd497 rfl dM_insert_121 ?_
        refine w_iload_n (pc := 124) (q := 3) G dM_insert_124 rfl rfl ?_
        obtain ⟨i125, h⟩ := gd_some h
        refine w_lald (pc := 125) (n := 4) (f := (m_fresh τ)) G 4 (by decide) rfl i125 dM_insert_125 ?_
        refine w_lneg (pc := 126) G dM_insert_126 ?_
        refine w_goto (pc := 127) (tgt := 136) G dM_insert_127 (by decide) ?_
        obtain ⟨i136, h⟩ := gd_some h
        refine w_last (pc := 136) (n := 16) (f := (m_row τ)) (L1 := (LM κ (s_row τ (vp_updL (m_row τ) (((4 : Int32) * v2) + v3).toNatClampNeg (-((m_fresh τ) v3.toNatClampNeg)))) X)) G 2 (by decide) rfl i136 dM_insert_136 (LM_row κ τ X _) ?_
        refine w_iinc (pc := 137) (q0 := 3) (v := (v3 + 1)) (lv' := [(3, .int (v3 + 1)), (0, .ref (κ.1 0)), (1, .int v1), (2, .int v2)]) G dM_insert_137 rfl rfl (by decide) rfl ?_
        refine w_goto (pc := 140) (tgt := 95) G dM_insert_140 (by decide) ?_
        refine w_sub (lv' := [(0, .ref (κ.1 0)), (1, .int v1), (2, .int v2), (3, .int (v3 + 1))]) [1, 2, 3, 0] rfl ?_
        exact ih (v3 + 1) (s_row τ (vp_updL (m_row τ) (((4 : Int32) * v2) + v3).toNatClampNeg (-((m_fresh τ) v3.toNatClampNeg)))) out h K
noncomputable def M_insert (F : Nat) (τ : MS) (v1 : Int32) : Option (MS) := (lM_insert_5 F v1 F (m_rows τ) τ).bind (fun o5_9 => gd (vp_in o5_9.1 5) ((lM_insert_95 F v1 o5_9.1 F (0 : Int32) (s_pivot (s_rows o5_9.2 (((m_rows o5_9.2) + (1 : Int32)))) (upd (m_pivot o5_9.2) o5_9.1.toNatClampNeg v1))).bind (fun o95_14 => some o95_14)))
set_option maxHeartbeats 4000000 in
set_option maxRecDepth 100000 in
theorem met_M_insert (κ : ctx) (X : Nat → va_E) (F : Nat) (τ : MS) (v1 : Int32) {out : MS} (h : M_insert F τ v1 = some out) : Mt yM_insert cM_insert 4 none rm_M_insert κ [.ref (κ.1 0), .int v1] (LM κ τ X) none (LM κ out X) := by
  refine Mt.of (by decide) (Nat.le_of_ble_eq_true rfl) ?_
  intro g G Fh
  unfold M_insert at h
  show J g κ 4 0 [(0, .ref (κ.1 0)), (1, .int v1)] [] (LM κ τ X)
  refine w_aload_n (pc := 0) (q := 0) G dM_insert_0 rfl rfl ?_
  refine w_get (pc := 1) (v := .int (m_rows τ)) (fs := mfl κ τ) G 0 (by decide) rfl rfl wsM_ok 4 (by decide) wd494 rfl dM_insert_1 ?_
  refine w_istore_n (pc := 4) (lv' := [(2, .int (m_rows τ)), (0, .ref (κ.1 0)), (1, .int v1)]) G dM_insert_4 rfl (by decide) rfl ?_
  refine w_sub (lv' := [(0, .ref (κ.1 0)), (1, .int v1), (2, .int (m_rows τ))]) [1, 2, 0] rfl ?_
  obtain ⟨o5_9, eo5_9, h⟩ := bd h
  refine lM_insert_5_ok G X F v1 F (m_rows τ) τ o5_9 eo5_9 ?_
  refine w_aload_n (pc := 76) (q := 0) G dM_insert_76 rfl rfl ?_
  refine w_dup (pc := 77) G dM_insert_77 rfl ?_
  refine w_get (pc := 78) (v := .int (m_rows o5_9.2)) (fs := mfl κ o5_9.2) G 0 (by decide) rfl rfl wsM_ok 4 (by decide) wd494 rfl dM_insert_78 ?_
  refine w_iconst (pc := 81) (v := (1 : Int32)) G dM_insert_81 (by decide) ?_
  refine w_iadd (pc := 82) G dM_insert_82 ?_
  refine w_put (pc := 83) (fs := mfl κ o5_9.2) (L1 := (LM κ (s_rows o5_9.2 (((m_rows o5_9.2) + (1 : Int32)))) X)) G 0 (by decide) rfl rfl wsM_ok tyM tyM_ok nmM 4 (by decide) wd494 rfl rfl rfl (Nat.le_of_ble_eq_true rfl) dM_insert_83 (LMf_rows κ o5_9.2 X _) ?_
  refine w_aload_n (pc := 86) (q := 0) G dM_insert_86 rfl rfl ?_
  refine w_get (pc := 87) (v := .ref (κ.1 3)) (fs := mfl κ (s_rows o5_9.2 (((m_rows o5_9.2) + (1 : Int32))))) G 0 (by decide) rfl rfl wsM_ok 6 (by decide) wd496 rfl dM_insert_87 ?_
  refine w_iload_n (pc := 90) (q := 2) G dM_insert_90 rfl rfl ?_
  refine w_iload_n (pc := 91) (q := 1) G dM_insert_91 rfl rfl ?_
  obtain ⟨i92, h⟩ := gd_some h
  refine w_iast (pc := 92) (n := 5) (f := (m_pivot o5_9.2)) (L1 := (LM κ (s_pivot (s_rows o5_9.2 (((m_rows o5_9.2) + (1 : Int32)))) (upd (m_pivot o5_9.2) o5_9.1.toNatClampNeg v1)) X)) G 3 (by decide) rfl i92 dM_insert_92 (LM_pivot κ (s_rows o5_9.2 (((m_rows o5_9.2) + (1 : Int32)))) X _) ?_
  refine w_iconst (pc := 93) (v := (0 : Int32)) G dM_insert_93 (by decide) ?_
  refine w_istore_n (pc := 94) (lv' := [(3, .int (0 : Int32)), (0, .ref (κ.1 0)), (1, .int v1), (2, .int o5_9.1)]) G dM_insert_94 rfl (by decide) rfl ?_
  refine w_sub (lv' := [(0, .ref (κ.1 0)), (1, .int v1), (2, .int o5_9.1), (3, .int (0 : Int32))]) [1, 2, 3, 0] rfl ?_
  obtain ⟨o95_14, eo95_14, h⟩ := bd h
  refine lM_insert_95_ok G X F v1 o5_9.1 F (0 : Int32) (s_pivot (s_rows o5_9.2 (((m_rows o5_9.2) + (1 : Int32)))) (upd (m_pivot o5_9.2) o5_9.1.toNatClampNeg v1)) o95_14 eo95_14 ?_
  obtain rfl := Option.some.inj h
  exact w_vret (pc := 143) G dM_insert_143 Fh
def rm_M_swap : Room := { frames := 0, cells := 0, slots := 0, locals := 0 }
theorem dM_swap_0 : decode cM_swap 0 = .ok (.iconst 0, 1) := by decide +kernel
theorem dM_swap_1 : decode cM_swap 1 = .ok (.istore_n 2, 1) := by decide +kernel
theorem dM_swap_2 : decode cM_swap 2 = .ok (.iload_n 2, 1) := by decide +kernel
theorem dM_swap_3 : decode cM_swap 3 = .ok (.iconst 4, 1) := by decide +kernel
theorem dM_swap_4 : decode cM_swap 4 = .ok (.if_icmp .ge 43, 3) := by decide +kernel
theorem dM_swap_7 : decode cM_swap 7 = .ok (.aload_n 0, 1) := by decide +kernel
theorem dM_swap_8 : decode cM_swap 8 = .ok (.getfield 20, 3) := by decide +kernel
theorem dM_swap_11 : decode cM_swap 11 = .ok (.iload_n 2, 1) := by decide +kernel
theorem dM_swap_12 : decode cM_swap 12 = .ok (.laload, 1) := by decide +kernel
theorem dM_swap_13 : decode cM_swap 13 = .ok (.lstore_n 3, 1) := by decide +kernel
theorem dM_swap_14 : decode cM_swap 14 = .ok (.aload_n 0, 1) := by decide +kernel
theorem dM_swap_15 : decode cM_swap 15 = .ok (.getfield 20, 3) := by decide +kernel
theorem dM_swap_18 : decode cM_swap 18 = .ok (.iload_n 2, 1) := by decide +kernel
theorem dM_swap_19 : decode cM_swap 19 = .ok (.aload_n 0, 1) := by decide +kernel
theorem dM_swap_20 : decode cM_swap 20 = .ok (.getfield 13, 3) := by decide +kernel
theorem dM_swap_23 : decode cM_swap 23 = .ok (.iconst 4, 1) := by decide +kernel
theorem dM_swap_24 : decode cM_swap 24 = .ok (.iload_n 1, 1) := by decide +kernel
theorem dM_swap_25 : decode cM_swap 25 = .ok (.imul, 1) := by decide +kernel
theorem dM_swap_26 : decode cM_swap 26 = .ok (.iload_n 2, 1) := by decide +kernel
theorem dM_swap_27 : decode cM_swap 27 = .ok (.iadd, 1) := by decide +kernel
theorem dM_swap_28 : decode cM_swap 28 = .ok (.laload, 1) := by decide +kernel
theorem dM_swap_29 : decode cM_swap 29 = .ok (.lastore, 1) := by decide +kernel
theorem dM_swap_30 : decode cM_swap 30 = .ok (.aload_n 0, 1) := by decide +kernel
theorem dM_swap_31 : decode cM_swap 31 = .ok (.getfield 13, 3) := by decide +kernel
theorem dM_swap_34 : decode cM_swap 34 = .ok (.iconst 4, 1) := by decide +kernel
theorem dM_swap_35 : decode cM_swap 35 = .ok (.iload_n 1, 1) := by decide +kernel
theorem dM_swap_36 : decode cM_swap 36 = .ok (.imul, 1) := by decide +kernel
theorem dM_swap_37 : decode cM_swap 37 = .ok (.iload_n 2, 1) := by decide +kernel
theorem dM_swap_38 : decode cM_swap 38 = .ok (.iadd, 1) := by decide +kernel
theorem dM_swap_39 : decode cM_swap 39 = .ok (.lload_n 3, 1) := by decide +kernel
theorem dM_swap_40 : decode cM_swap 40 = .ok (.lastore, 1) := by decide +kernel
theorem dM_swap_41 : decode cM_swap 41 = .ok (.iinc 2 1, 3) := by decide +kernel
theorem dM_swap_44 : decode cM_swap 44 = .ok (.goto (-42), 3) := by decide +kernel
theorem dM_swap_47 : decode cM_swap 47 = .ok (.return_, 1) := by decide +kernel
noncomputable def lM_swap_2 (F : Nat) (v1 : Int32) : Nat → Int32 → MS → Option (MS)
  | 0, _, _ => none
  | n + 1, v2, τ => if (4 : Int32) ≤ v2 then some (τ) else gd (vp_in v2 4) (gd (vp_in (((4 : Int32) * v1) + v2) 16) (gd (vp_in v2 4) (gd (vp_in (((4 : Int32) * v1) + v2) 16) (lM_swap_2 F v1 n (v2 + 1) (s_fresh (s_row τ (vp_updL (m_row τ) (((4 : Int32) * v1) + v2).toNatClampNeg ((m_fresh τ) v2.toNatClampNeg))) (vp_updL (m_fresh τ) v2.toNatClampNeg ((m_row τ) (((4 : Int32) * v1) + v2).toNatClampNeg)))))))
set_option maxHeartbeats 4000000 in
set_option maxRecDepth 100000 in
theorem lM_swap_2_ok {g : Gm} {κ : ctx} (G : OK g κ RM cM_swap 5 none rm_M_swap) (X : Nat → va_E) (F : Nat) (v1 : Int32) : ∀ (n : Nat) (v2 : Int32) (τ : MS) (out : MS), lM_swap_2 F v1 n v2 τ = some out → (J g κ 5 47 [] [] (LM κ out X)) → J g κ 5 2 [(0, .ref (κ.1 0)), (1, .int v1), (2, .int v2)] [] (LM κ τ X) := by
  intro n
  induction n with
  | zero =>
    intro v2 τ
    intro out h
    rw [lM_swap_2] at h
    cases h
  | succ n ih =>
    intro v2 τ out h K
    rw [lM_swap_2] at h
    refine w_iload_n (pc := 2) (q := 2) G dM_swap_2 rfl rfl ?_
    refine w_iconst (pc := 3) (v := (4 : Int32)) G dM_swap_3 (by decide) ?_
    refine w_icmp_ge (pc := 4) (tgt := 47) G dM_swap_4 (by decide) (fun c4 => ?_) (fun c4 => ?_)
    · have h := if_t c4 h
      obtain rfl := Option.some.inj h
      refine w_sub (lv' := []) [] rfl ?_
      exact K
    · have h := if_f c4 h
      refine w_aload_n (pc := 7) (q := 0) G dM_swap_7 rfl rfl ?_
      refine w_get (pc := 8) (v := .ref (κ.1 4)) (fs := mfl κ τ) G 0 (by decide) rfl rfl wsM_ok 7 (by decide) wd497 rfl dM_swap_8 ?_
      refine w_iload_n (pc := 11) (q := 2) G dM_swap_11 rfl rfl ?_
      obtain ⟨i12, h⟩ := gd_some h
      refine w_lald (pc := 12) (n := 4) (f := (m_fresh τ)) G 4 (by decide) rfl i12 dM_swap_12 ?_
      refine w_lstore_n (pc := 13) (lv' := [(3, .long ((m_fresh τ) v2.toNatClampNeg)), (0, .ref (κ.1 0)), (1, .int v1), (2, .int v2)]) G dM_swap_13 rfl (by decide) rfl ?_
      refine w_aload_n (pc := 14) (q := 1) G dM_swap_14 rfl rfl ?_
      refine w_get (pc := 15) (v := .ref (κ.1 4)) (fs := mfl κ τ) G 0 (by decide) rfl rfl wsM_ok 7 (by decide) wd497 rfl dM_swap_15 ?_
      refine w_iload_n (pc := 18) (q := 3) G dM_swap_18 rfl rfl ?_
      refine w_aload_n (pc := 19) (q := 1) G dM_swap_19 rfl rfl ?_
      refine w_get (pc := 20) (v := .ref (κ.1 2)) (fs := mfl κ τ) G 0 (by decide) rfl rfl wsM_ok 5 (by decide) wd495 rfl dM_swap_20 ?_
      refine w_iconst (pc := 23) (v := (4 : Int32)) G dM_swap_23 (by decide) ?_
      refine w_iload_n (pc := 24) (q := 2) G dM_swap_24 rfl rfl ?_
      refine w_imul (pc := 25) G dM_swap_25 ?_
      refine w_iload_n (pc := 26) (q := 3) G dM_swap_26 rfl rfl ?_
      refine w_iadd (pc := 27) G dM_swap_27 ?_
      obtain ⟨i28, h⟩ := gd_some h
      refine w_lald (pc := 28) (n := 16) (f := (m_row τ)) G 2 (by decide) rfl i28 dM_swap_28 ?_
      obtain ⟨i29, h⟩ := gd_some h
      refine w_last (pc := 29) (n := 4) (f := (m_fresh τ)) (L1 := (LM κ (s_fresh τ (vp_updL (m_fresh τ) v2.toNatClampNeg ((m_row τ) (((4 : Int32) * v1) + v2).toNatClampNeg))) X)) G 4 (by decide) rfl i29 dM_swap_29 (LM_fresh κ τ X _) ?_
      refine w_aload_n (pc := 30) (q := 1) G dM_swap_30 rfl rfl ?_
      refine w_get (pc := 31) (v := .ref (κ.1 2)) (fs := mfl κ (s_fresh τ (vp_updL (m_fresh τ) v2.toNatClampNeg ((m_row τ) (((4 : Int32) * v1) + v2).toNatClampNeg)))) G 0 (by decide) rfl rfl wsM_ok 5 (by decide) wd495 rfl dM_swap_31 ?_
      refine w_iconst (pc := 34) (v := (4 : Int32)) G dM_swap_34 (by decide) ?_
      refine w_iload_n (pc := 35) (q := 2) G dM_swap_35 rfl rfl ?_
      refine w_imul (pc := 36) G dM_swap_36 ?_
      refine w_iload_n (pc := 37) (q := 3) G dM_swap_37 rfl rfl ?_
      refine w_iadd (pc := 38) G dM_swap_38 ?_
      refine w_lload_n (pc := 39) (q := 0) G dM_swap_39 rfl rfl ?_
      obtain ⟨i40, h⟩ := gd_some h
      refine w_last (pc := 40) (n := 16) (f := (m_row τ)) (L1 := (LM κ (s_fresh (s_row τ (vp_updL (m_row τ) (((4 : Int32) * v1) + v2).toNatClampNeg ((m_fresh τ) v2.toNatClampNeg))) (vp_updL (m_fresh τ) v2.toNatClampNeg ((m_row τ) (((4 : Int32) * v1) + v2).toNatClampNeg))) X)) G 2 (by decide) rfl i40 dM_swap_40 (LM_row κ (s_fresh τ (vp_updL (m_fresh τ) v2.toNatClampNeg ((m_row τ) (((4 : Int32) * v1) + v2).toNatClampNeg))) X _) ?_
      refine w_iinc (pc := 41) (q0 := 3) (v := (v2 + 1)) (lv' := [(2, .int (v2 + 1)), (3, .long ((m_fresh τ) v2.toNatClampNeg)), (0, .ref (κ.1 0)), (1, .int v1)]) G dM_swap_41 rfl rfl (by decide) rfl ?_
      refine w_goto (pc := 44) (tgt := 2) G dM_swap_44 (by decide) ?_
      refine w_sub (lv' := [(0, .ref (κ.1 0)), (1, .int v1), (2, .int (v2 + 1))]) [2, 3, 0] rfl ?_
      exact ih (v2 + 1) (s_fresh (s_row τ (vp_updL (m_row τ) (((4 : Int32) * v1) + v2).toNatClampNeg ((m_fresh τ) v2.toNatClampNeg))) (vp_updL (m_fresh τ) v2.toNatClampNeg ((m_row τ) (((4 : Int32) * v1) + v2).toNatClampNeg))) out h K
noncomputable def M_swap (F : Nat) (τ : MS) (v1 : Int32) : Option (MS) := (lM_swap_2 F v1 F (0 : Int32) τ).bind (fun o2_4 => some o2_4)
set_option maxHeartbeats 4000000 in
set_option maxRecDepth 100000 in
theorem met_M_swap (κ : ctx) (X : Nat → va_E) (F : Nat) (τ : MS) (v1 : Int32) {out : MS} (h : M_swap F τ v1 = some out) : Mt yM_swap cM_swap 5 none rm_M_swap κ [.ref (κ.1 0), .int v1] (LM κ τ X) none (LM κ out X) := by
  refine Mt.of (by decide) (Nat.le_of_ble_eq_true rfl) ?_
  intro g G Fh
  unfold M_swap at h
  show J g κ 5 0 [(0, .ref (κ.1 0)), (1, .int v1)] [] (LM κ τ X)
  refine w_iconst (pc := 0) (v := (0 : Int32)) G dM_swap_0 (by decide) ?_
  refine w_istore_n (pc := 1) (lv' := [(2, .int (0 : Int32)), (0, .ref (κ.1 0)), (1, .int v1)]) G dM_swap_1 rfl (by decide) rfl ?_
  refine w_sub (lv' := [(0, .ref (κ.1 0)), (1, .int v1), (2, .int (0 : Int32))]) [1, 2, 0] rfl ?_
  obtain ⟨o2_4, eo2_4, h⟩ := bd h
  refine lM_swap_2_ok G X F v1 F (0 : Int32) τ o2_4 eo2_4 ?_
  obtain rfl := Option.some.inj h
  exact w_vret (pc := 47) G dM_swap_47 Fh
def rm_M_divide : Room := { frames := 2, cells := 0, slots := 0, locals := 51 }
theorem dM_divide_0 : decode cM_divide 0 = .ok (.aload_n 0, 1) := by decide +kernel
theorem dM_divide_1 : decode cM_divide 1 = .ok (.getfield 17, 3) := by decide +kernel
theorem dM_divide_4 : decode cM_divide 4 = .ok (.iload_n 1, 1) := by decide +kernel
theorem dM_divide_5 : decode cM_divide 5 = .ok (.iaload, 1) := by decide +kernel
theorem dM_divide_6 : decode cM_divide 6 = .ok (.istore_n 2, 1) := by decide +kernel
theorem dM_divide_7 : decode cM_divide 7 = .ok (.aload_n 0, 1) := by decide +kernel
theorem dM_divide_8 : decode cM_divide 8 = .ok (.getfield 20, 3) := by decide +kernel
theorem dM_divide_11 : decode cM_divide 11 = .ok (.iload_n 2, 1) := by decide +kernel
theorem dM_divide_12 : decode cM_divide 12 = .ok (.laload, 1) := by decide +kernel
theorem dM_divide_13 : decode cM_divide 13 = .ok (.lconst 0, 1) := by decide +kernel
theorem dM_divide_14 : decode cM_divide 14 = .ok (.lcmp, 1) := by decide +kernel
theorem dM_divide_15 : decode cM_divide 15 = .ok (.ifCond .eq 87, 3) := by decide +kernel
theorem dM_divide_18 : decode cM_divide 18 = .ok (.aload_n 0, 1) := by decide +kernel
theorem dM_divide_19 : decode cM_divide 19 = .ok (.getfield 13, 3) := by decide +kernel
theorem dM_divide_22 : decode cM_divide 22 = .ok (.iconst 4, 1) := by decide +kernel
theorem dM_divide_23 : decode cM_divide 23 = .ok (.iload_n 1, 1) := by decide +kernel
theorem dM_divide_24 : decode cM_divide 24 = .ok (.imul, 1) := by decide +kernel
theorem dM_divide_25 : decode cM_divide 25 = .ok (.iload_n 2, 1) := by decide +kernel
theorem dM_divide_26 : decode cM_divide 26 = .ok (.iadd, 1) := by decide +kernel
theorem dM_divide_27 : decode cM_divide 27 = .ok (.laload, 1) := by decide +kernel
theorem dM_divide_28 : decode cM_divide 28 = .ok (.aload_n 0, 1) := by decide +kernel
theorem dM_divide_29 : decode cM_divide 29 = .ok (.getfield 20, 3) := by decide +kernel
theorem dM_divide_32 : decode cM_divide 32 = .ok (.iload_n 2, 1) := by decide +kernel
theorem dM_divide_33 : decode cM_divide 33 = .ok (.laload, 1) := by decide +kernel
theorem dM_divide_34 : decode cM_divide 34 = .ok (.ldiv, 1) := by decide +kernel
theorem dM_divide_35 : decode cM_divide 35 = .ok (.lstore_n 3, 1) := by decide +kernel
theorem dM_divide_36 : decode cM_divide 36 = .ok (.iload_n 2, 1) := by decide +kernel
theorem dM_divide_37 : decode cM_divide 37 = .ok (.istore 5, 2) := by decide +kernel
theorem dM_divide_39 : decode cM_divide 39 = .ok (.iload 5, 2) := by decide +kernel
theorem dM_divide_41 : decode cM_divide 41 = .ok (.iconst 4, 1) := by decide +kernel
theorem dM_divide_42 : decode cM_divide 42 = .ok (.if_icmp .ge 32, 3) := by decide +kernel
theorem dM_divide_45 : decode cM_divide 45 = .ok (.aload_n 0, 1) := by decide +kernel
theorem dM_divide_46 : decode cM_divide 46 = .ok (.getfield 13, 3) := by decide +kernel
theorem dM_divide_49 : decode cM_divide 49 = .ok (.iconst 4, 1) := by decide +kernel
theorem dM_divide_50 : decode cM_divide 50 = .ok (.iload_n 1, 1) := by decide +kernel
theorem dM_divide_51 : decode cM_divide 51 = .ok (.imul, 1) := by decide +kernel
theorem dM_divide_52 : decode cM_divide 52 = .ok (.iload 5, 2) := by decide +kernel
theorem dM_divide_54 : decode cM_divide 54 = .ok (.iadd, 1) := by decide +kernel
theorem dM_divide_55 : decode cM_divide 55 = .ok (.dup2, 1) := by decide +kernel
theorem dM_divide_56 : decode cM_divide 56 = .ok (.laload, 1) := by decide +kernel
theorem dM_divide_57 : decode cM_divide 57 = .ok (.lload_n 3, 1) := by decide +kernel
theorem dM_divide_58 : decode cM_divide 58 = .ok (.aload_n 0, 1) := by decide +kernel
theorem dM_divide_59 : decode cM_divide 59 = .ok (.getfield 20, 3) := by decide +kernel
theorem dM_divide_62 : decode cM_divide 62 = .ok (.iload 5, 2) := by decide +kernel
theorem dM_divide_64 : decode cM_divide 64 = .ok (.laload, 1) := by decide +kernel
theorem dM_divide_65 : decode cM_divide 65 = .ok (.lmul, 1) := by decide +kernel
theorem dM_divide_66 : decode cM_divide 66 = .ok (.lsub, 1) := by decide +kernel
theorem dM_divide_67 : decode cM_divide 67 = .ok (.lastore, 1) := by decide +kernel
theorem dM_divide_68 : decode cM_divide 68 = .ok (.iinc 5 1, 3) := by decide +kernel
theorem dM_divide_71 : decode cM_divide 71 = .ok (.goto (-32), 3) := by decide +kernel
theorem dM_divide_74 : decode cM_divide 74 = .ok (.aload_n 0, 1) := by decide +kernel
theorem dM_divide_75 : decode cM_divide 75 = .ok (.iload_n 1, 1) := by decide +kernel
theorem dM_divide_76 : decode cM_divide 76 = .ok (.invokevirtual 85, 3) := by decide +kernel
theorem dM_divide_79 : decode cM_divide 79 = .ok (.aload_n 0, 1) := by decide +kernel
theorem dM_divide_80 : decode cM_divide 80 = .ok (.iload_n 2, 1) := by decide +kernel
theorem dM_divide_81 : decode cM_divide 81 = .ok (.invokevirtual 89, 3) := by decide +kernel
theorem dM_divide_84 : decode cM_divide 84 = .ok (.aload_n 0, 1) := by decide +kernel
theorem dM_divide_85 : decode cM_divide 85 = .ok (.iload_n 1, 1) := by decide +kernel
theorem dM_divide_86 : decode cM_divide 86 = .ok (.invokevirtual 85, 3) := by decide +kernel
theorem dM_divide_89 : decode cM_divide 89 = .ok (.aload_n 0, 1) := by decide +kernel
theorem dM_divide_90 : decode cM_divide 90 = .ok (.iload_n 2, 1) := by decide +kernel
theorem dM_divide_91 : decode cM_divide 91 = .ok (.invokevirtual 89, 3) := by decide +kernel
theorem dM_divide_94 : decode cM_divide 94 = .ok (.aload_n 0, 1) := by decide +kernel
theorem dM_divide_95 : decode cM_divide 95 = .ok (.iload_n 1, 1) := by decide +kernel
theorem dM_divide_96 : decode cM_divide 96 = .ok (.invokevirtual 85, 3) := by decide +kernel
theorem dM_divide_99 : decode cM_divide 99 = .ok (.goto (-92), 3) := by decide +kernel
theorem dM_divide_102 : decode cM_divide 102 = .ok (.aload_n 0, 1) := by decide +kernel
theorem dM_divide_103 : decode cM_divide 103 = .ok (.getfield 13, 3) := by decide +kernel
theorem dM_divide_106 : decode cM_divide 106 = .ok (.iconst 4, 1) := by decide +kernel
theorem dM_divide_107 : decode cM_divide 107 = .ok (.iload_n 1, 1) := by decide +kernel
theorem dM_divide_108 : decode cM_divide 108 = .ok (.imul, 1) := by decide +kernel
theorem dM_divide_109 : decode cM_divide 109 = .ok (.iload_n 2, 1) := by decide +kernel
theorem dM_divide_110 : decode cM_divide 110 = .ok (.iadd, 1) := by decide +kernel
theorem dM_divide_111 : decode cM_divide 111 = .ok (.laload, 1) := by decide +kernel
theorem dM_divide_112 : decode cM_divide 112 = .ok (.lconst 0, 1) := by decide +kernel
theorem dM_divide_113 : decode cM_divide 113 = .ok (.lcmp, 1) := by decide +kernel
theorem dM_divide_114 : decode cM_divide 114 = .ok (.ifCond .ge 44, 3) := by decide +kernel
theorem dM_divide_117 : decode cM_divide 117 = .ok (.aload_n 0, 1) := by decide +kernel
theorem dM_divide_118 : decode cM_divide 118 = .ok (.iload_n 1, 1) := by decide +kernel
theorem dM_divide_119 : decode cM_divide 119 = .ok (.invokevirtual 85, 3) := by decide +kernel
theorem dM_divide_122 : decode cM_divide 122 = .ok (.iconst 0, 1) := by decide +kernel
theorem dM_divide_123 : decode cM_divide 123 = .ok (.istore_n 3, 1) := by decide +kernel
theorem dM_divide_124 : decode cM_divide 124 = .ok (.iload_n 3, 1) := by decide +kernel
theorem dM_divide_125 : decode cM_divide 125 = .ok (.iconst 4, 1) := by decide +kernel
theorem dM_divide_126 : decode cM_divide 126 = .ok (.if_icmp .ge 22, 3) := by decide +kernel
theorem dM_divide_129 : decode cM_divide 129 = .ok (.aload_n 0, 1) := by decide +kernel
theorem dM_divide_130 : decode cM_divide 130 = .ok (.getfield 20, 3) := by decide +kernel
theorem dM_divide_133 : decode cM_divide 133 = .ok (.iload_n 3, 1) := by decide +kernel
theorem dM_divide_134 : decode cM_divide 134 = .ok (.aload_n 0, 1) := by decide +kernel
theorem dM_divide_135 : decode cM_divide 135 = .ok (.getfield 20, 3) := by decide +kernel
theorem dM_divide_138 : decode cM_divide 138 = .ok (.iload_n 3, 1) := by decide +kernel
theorem dM_divide_139 : decode cM_divide 139 = .ok (.laload, 1) := by decide +kernel
theorem dM_divide_140 : decode cM_divide 140 = .ok (.lneg, 1) := by decide +kernel
theorem dM_divide_141 : decode cM_divide 141 = .ok (.lastore, 1) := by decide +kernel
theorem dM_divide_142 : decode cM_divide 142 = .ok (.iinc 3 1, 3) := by decide +kernel
theorem dM_divide_145 : decode cM_divide 145 = .ok (.goto (-21), 3) := by decide +kernel
theorem dM_divide_148 : decode cM_divide 148 = .ok (.aload_n 0, 1) := by decide +kernel
theorem dM_divide_149 : decode cM_divide 149 = .ok (.iload_n 2, 1) := by decide +kernel
theorem dM_divide_150 : decode cM_divide 150 = .ok (.invokevirtual 89, 3) := by decide +kernel
theorem dM_divide_153 : decode cM_divide 153 = .ok (.aload_n 0, 1) := by decide +kernel
theorem dM_divide_154 : decode cM_divide 154 = .ok (.iload_n 1, 1) := by decide +kernel
theorem dM_divide_155 : decode cM_divide 155 = .ok (.invokevirtual 85, 3) := by decide +kernel
theorem dM_divide_158 : decode cM_divide 158 = .ok (.return_, 1) := by decide +kernel
theorem cb_M_swap_M_divide : CB yM_swap cM_swap 5 none rm_M_swap rm_M_divide 1 := ⟨wd625, wd8, by decide +kernel, rfl, rfl, by decide⟩
theorem cb_M_tidy_M_divide : CB yM_tidy cM_tidy 7 none rm_M_tidy rm_M_divide 1 := ⟨wd610, wd8, by decide +kernel, rfl, rfl, by decide⟩
noncomputable def lM_divide_39 (F : Nat) (v1 : Int32) (v2 : Int32) (v3 : Int64) : Nat → Int32 → MS → Option (MS)
  | 0, _, _ => none
  | n + 1, v5, τ => if (4 : Int32) ≤ v5 then some (τ) else gd (vp_in (((4 : Int32) * v1) + v5) 16) (gd (vp_in v5 4) (gd (vp_in (((4 : Int32) * v1) + v5) 16) (lM_divide_39 F v1 v2 v3 n (v5 + 1) (s_row τ (vp_updL (m_row τ) (((4 : Int32) * v1) + v5).toNatClampNeg (((m_row τ) (((4 : Int32) * v1) + v5).toNatClampNeg) - (v3 * ((m_fresh τ) v5.toNatClampNeg))))))))
set_option maxHeartbeats 4000000 in
set_option maxRecDepth 100000 in
theorem lM_divide_39_ok {g : Gm} {κ : ctx} (G : OK g κ RM cM_divide 6 none rm_M_divide) (X : Nat → va_E) (F : Nat) (v1 : Int32) (v2 : Int32) (v3 : Int64) : ∀ (n : Nat) (v5 : Int32) (τ : MS) (out : MS), lM_divide_39 F v1 v2 v3 n v5 τ = some out → (J g κ 6 74 [(0, .ref (κ.1 0)), (1, .int v1), (2, .int v2)] [] (LM κ out X)) → J g κ 6 39 [(0, .ref (κ.1 0)), (1, .int v1), (2, .int v2), (3, .long v3), (5, .int v5)] [] (LM κ τ X) := by
  intro n
  induction n with
  | zero =>
    intro v5 τ
    intro out h
    rw [lM_divide_39] at h
    cases h
  | succ n ih =>
    intro v5 τ out h K
    rw [lM_divide_39] at h
    refine w_iload (pc := 39) (q := 4) G dM_divide_39 rfl ?_
    refine w_iconst (pc := 41) (v := (4 : Int32)) G dM_divide_41 (by decide) ?_
    refine w_icmp_ge (pc := 42) (tgt := 74) G dM_divide_42 (by decide) (fun c42 => ?_) (fun c42 => ?_)
    · have h := if_t c42 h
      obtain rfl := Option.some.inj h
      refine w_sub (lv' := [(0, .ref (κ.1 0)), (1, .int v1), (2, .int v2)]) [0, 1, 2] rfl ?_
      exact K
    · have h := if_f c42 h
      refine w_aload_n (pc := 45) (q := 0) G dM_divide_45 rfl rfl ?_
      refine w_get (pc := 46) (v := .ref (κ.1 2)) (fs := mfl κ τ) G 0 (by decide) rfl rfl wsM_ok 5 (by decide) wd495 rfl dM_divide_46 ?_
      refine w_iconst (pc := 49) (v := (4 : Int32)) G dM_divide_49 (by decide) ?_
      refine w_iload_n (pc := 50) (q := 1) G dM_divide_50 rfl rfl ?_
      refine w_imul (pc := 51) G dM_divide_51 ?_
      refine w_iload (pc := 52) (q := 4) G dM_divide_52 rfl ?_
      refine w_iadd (pc := 54) G dM_divide_54 ?_
      refine w_dup2_11 (pc := 55) G dM_divide_55 rfl rfl ?_
      obtain ⟨i56, h⟩ := gd_some h
      refine w_lald (pc := 56) (n := 16) (f := (m_row τ)) G 2 (by decide) rfl i56 dM_divide_56 ?_
      refine w_lload_n (pc := 57) (q := 3) G dM_divide_57 rfl rfl ?_
      refine w_aload_n (pc := 58) (q := 0) G dM_divide_58 rfl rfl ?_
      refine w_get (pc := 59) (v := .ref (κ.1 4)) (fs := mfl κ τ) G 0 (by decide) rfl rfl wsM_ok 7 (by decide) wd497 rfl dM_divide_59 ?_
      refine w_iload (pc := 62) (q := 4) G dM_divide_62 rfl ?_
      obtain ⟨i64, h⟩ := gd_some h
      refine w_lald (pc := 64) (n := 4) (f := (m_fresh τ)) G 4 (by decide) rfl i64 dM_divide_64 ?_
      refine w_lmul (pc := 65) G dM_divide_65 ?_
      refine w_lsub (pc := 66) G dM_divide_66 ?_
      obtain ⟨i67, h⟩ := gd_some h
      refine w_last (pc := 67) (n := 16) (f := (m_row τ)) (L1 := (LM κ (s_row τ (vp_updL (m_row τ) (((4 : Int32) * v1) + v5).toNatClampNeg (((m_row τ) (((4 : Int32) * v1) + v5).toNatClampNeg) - (v3 * ((m_fresh τ) v5.toNatClampNeg))))) X)) G 2 (by decide) rfl i67 dM_divide_67 (LM_row κ τ X _) ?_
      refine w_iinc (pc := 68) (q0 := 4) (v := (v5 + 1)) (lv' := [(5, .int (v5 + 1)), (0, .ref (κ.1 0)), (1, .int v1), (2, .int v2), (3, .long v3)]) G dM_divide_68 rfl rfl (by decide) rfl ?_
      refine w_goto (pc := 71) (tgt := 39) G dM_divide_71 (by decide) ?_
      refine w_sub (lv' := [(0, .ref (κ.1 0)), (1, .int v1), (2, .int v2), (3, .long v3), (5, .int (v5 + 1))]) [1, 2, 3, 4, 0] rfl ?_
      exact ih (v5 + 1) (s_row τ (vp_updL (m_row τ) (((4 : Int32) * v1) + v5).toNatClampNeg (((m_row τ) (((4 : Int32) * v1) + v5).toNatClampNeg) - (v3 * ((m_fresh τ) v5.toNatClampNeg))))) out h K
noncomputable def lM_divide_7 (F : Nat) (v1 : Int32) (v2 : Int32) : Nat → MS → Option (MS)
  | 0, _ => none
  | n + 1, τ => gd (vp_in v2 4) (if ((m_fresh τ) v2.toNatClampNeg) = (0 : Int64) then some (τ) else gd (vp_in (((4 : Int32) * v1) + v2) 16) (gd (vp_in v2 4) (gd (¬ ((m_fresh τ) v2.toNatClampNeg) = 0) ((lM_divide_39 F v1 v2 (((m_row τ) (((4 : Int32) * v1) + v2).toNatClampNeg) / ((m_fresh τ) v2.toNatClampNeg)) F v2 τ).bind (fun o39_7 => (M_swap F o39_7 v1).bind (fun r76 => (M_tidy F r76 v2).bind (fun r81 => (M_swap F r81 v1).bind (fun r86 => (M_tidy F r86 v2).bind (fun r91 => (M_swap F r91 v1).bind (fun r96 => lM_divide_7 F v1 v2 n  r96))))))))))
set_option maxHeartbeats 4000000 in
set_option maxRecDepth 100000 in
theorem lM_divide_7_ok {g : Gm} {κ : ctx} (G : OK g κ RM cM_divide 6 none rm_M_divide) (X : Nat → va_E) (F : Nat) (v1 : Int32) (v2 : Int32) : ∀ (n : Nat) (τ : MS) (out : MS), lM_divide_7 F v1 v2 n τ = some out → (J g κ 6 102 [(0, .ref (κ.1 0)), (1, .int v1), (2, .int v2)] [] (LM κ out X)) → J g κ 6 7 [(0, .ref (κ.1 0)), (1, .int v1), (2, .int v2)] [] (LM κ τ X) := by
  intro n
  induction n with
  | zero =>
    intro τ
    intro out h
    rw [lM_divide_7] at h
    cases h
  | succ n ih =>
    intro τ out h K
    rw [lM_divide_7] at h
    refine w_aload_n (pc := 7) (q := 0) G dM_divide_7 rfl rfl ?_
    refine w_get (pc := 8) (v := .ref (κ.1 4)) (fs := mfl κ τ) G 0 (by decide) rfl rfl wsM_ok 7 (by decide) wd497 rfl dM_divide_8 ?_
    refine w_iload_n (pc := 11) (q := 2) G dM_divide_11 rfl rfl ?_
    obtain ⟨i12, h⟩ := gd_some h
    refine w_lald (pc := 12) (n := 4) (f := (m_fresh τ)) G 4 (by decide) rfl i12 dM_divide_12 ?_
    refine w_lconst (pc := 13) (v := (0 : Int64)) G dM_divide_13 (by decide) ?_
    refine w_lc_eq (pc := 14) (tgt := 102) G dM_divide_14 dM_divide_15 (by decide) (fun c14 => ?_) (fun c14 => ?_)
    · have h := if_t c14 h
      obtain rfl := Option.some.inj h
      refine w_sub (lv' := [(0, .ref (κ.1 0)), (1, .int v1), (2, .int v2)]) [0, 1, 2] rfl ?_
      exact K
    · have h := if_f c14 h
      refine w_aload_n (pc := 18) (q := 0) G dM_divide_18 rfl rfl ?_
      refine w_get (pc := 19) (v := .ref (κ.1 2)) (fs := mfl κ τ) G 0 (by decide) rfl rfl wsM_ok 5 (by decide) wd495 rfl dM_divide_19 ?_
      refine w_iconst (pc := 22) (v := (4 : Int32)) G dM_divide_22 (by decide) ?_
      refine w_iload_n (pc := 23) (q := 1) G dM_divide_23 rfl rfl ?_
      refine w_imul (pc := 24) G dM_divide_24 ?_
      refine w_iload_n (pc := 25) (q := 2) G dM_divide_25 rfl rfl ?_
      refine w_iadd (pc := 26) G dM_divide_26 ?_
      obtain ⟨i27, h⟩ := gd_some h
      refine w_lald (pc := 27) (n := 16) (f := (m_row τ)) G 2 (by decide) rfl i27 dM_divide_27 ?_
      refine w_aload_n (pc := 28) (q := 0) G dM_divide_28 rfl rfl ?_
      refine w_get (pc := 29) (v := .ref (κ.1 4)) (fs := mfl κ τ) G 0 (by decide) rfl rfl wsM_ok 7 (by decide) wd497 rfl dM_divide_29 ?_
      refine w_iload_n (pc := 32) (q := 2) G dM_divide_32 rfl rfl ?_
      obtain ⟨i33, h⟩ := gd_some h
      refine w_lald (pc := 33) (n := 4) (f := (m_fresh τ)) G 4 (by decide) rfl i33 dM_divide_33 ?_
      obtain ⟨z34, h⟩ := gd_some h
      refine w_ldiv (pc := 34) G dM_divide_34 z34 ?_
      refine w_lstore_n (pc := 35) (lv' := [(3, .long (((m_row τ) (((4 : Int32) * v1) + v2).toNatClampNeg) / ((m_fresh τ) v2.toNatClampNeg))), (0, .ref (κ.1 0)), (1, .int v1), (2, .int v2)]) G dM_divide_35 rfl (by decide) rfl ?_
      refine w_iload_n (pc := 36) (q := 3) G dM_divide_36 rfl rfl ?_
      refine w_istore (pc := 37) (lv' := [(5, .int v2), (3, .long (((m_row τ) (((4 : Int32) * v1) + v2).toNatClampNeg) / ((m_fresh τ) v2.toNatClampNeg))), (0, .ref (κ.1 0)), (1, .int v1), (2, .int v2)]) G dM_divide_37 (by decide) rfl ?_
      refine w_sub (lv' := [(0, .ref (κ.1 0)), (1, .int v1), (2, .int v2), (3, .long (((m_row τ) (((4 : Int32) * v1) + v2).toNatClampNeg) / ((m_fresh τ) v2.toNatClampNeg))), (5, .int v2)]) [2, 3, 4, 1, 0] rfl ?_
      obtain ⟨o39_7, eo39_7, h⟩ := bd h
      refine lM_divide_39_ok G X F v1 v2 (((m_row τ) (((4 : Int32) * v1) + v2).toNatClampNeg) / ((m_fresh τ) v2.toNatClampNeg)) F v2 τ o39_7 eo39_7 ?_
      refine w_aload_n (pc := 74) (q := 0) G dM_divide_74 rfl rfl ?_
      refine w_iload_n (pc := 75) (q := 1) G dM_divide_75 rfl rfl ?_
      obtain ⟨r76, e76, h⟩ := bd h
      refine w_callV (pc := 76) (av := [.int v1]) (rest := []) (v := none) (L' := (LM κ r76 X)) (T := TM) (fs := mfl κ o39_7) G 0 0 27 (by decide) rfl rfl cb_M_swap_M_divide wd624 ws26 wd622 (met_M_swap κ X F o39_7 v1 e76) rfl rfl rfl (Nat.le_of_ble_eq_true rfl) dM_divide_76 ?_
      refine w_aload_n (pc := 79) (q := 0) G dM_divide_79 rfl rfl ?_
      refine w_iload_n (pc := 80) (q := 2) G dM_divide_80 rfl rfl ?_
      obtain ⟨r81, e81, h⟩ := bd h
      refine w_callV (pc := 81) (av := [.int v2]) (rest := []) (v := none) (L' := (LM κ r81 X)) (T := TM) (fs := mfl κ r76) G 0 0 27 (by decide) rfl rfl cb_M_tidy_M_divide wd609 ws23 wd607 (met_M_tidy κ X F r76 v2 e81) rfl rfl rfl (Nat.le_of_ble_eq_true rfl) dM_divide_81 ?_
      refine w_aload_n (pc := 84) (q := 0) G dM_divide_84 rfl rfl ?_
      refine w_iload_n (pc := 85) (q := 1) G dM_divide_85 rfl rfl ?_
      obtain ⟨r86, e86, h⟩ := bd h
      refine w_callV (pc := 86) (av := [.int v1]) (rest := []) (v := none) (L' := (LM κ r86 X)) (T := TM) (fs := mfl κ r81) G 0 0 27 (by decide) rfl rfl cb_M_swap_M_divide wd624 ws26 wd622 (met_M_swap κ X F r81 v1 e86) rfl rfl rfl (Nat.le_of_ble_eq_true rfl) dM_divide_86 ?_
      refine w_aload_n (pc := 89) (q := 0) G dM_divide_89 rfl rfl ?_
      refine w_iload_n (pc := 90) (q := 2) G dM_divide_90 rfl rfl ?_
      obtain ⟨r91, e91, h⟩ := bd h
      refine w_callV (pc := 91) (av := [.int v2]) (rest := []) (v := none) (L' := (LM κ r91 X)) (T := TM) (fs := mfl κ r86) G 0 0 27 (by decide) rfl rfl cb_M_tidy_M_divide wd609 ws23 wd607 (met_M_tidy κ X F r86 v2 e91) rfl rfl rfl (Nat.le_of_ble_eq_true rfl) dM_divide_91 ?_
      refine w_aload_n (pc := 94) (q := 0) G dM_divide_94 rfl rfl ?_
      refine w_iload_n (pc := 95) (q := 1) G dM_divide_95 rfl rfl ?_
      obtain ⟨r96, e96, h⟩ := bd h
      refine w_callV (pc := 96) (av := [.int v1]) (rest := []) (v := none) (L' := (LM κ r96 X)) (T := TM) (fs := mfl κ r91) G 0 0 27 (by decide) rfl rfl cb_M_swap_M_divide wd624 ws26 wd622 (met_M_swap κ X F r91 v1 e96) rfl rfl rfl (Nat.le_of_ble_eq_true rfl) dM_divide_96 ?_
      refine w_goto (pc := 99) (tgt := 7) G dM_divide_99 (by decide) ?_
      refine w_sub (lv' := [(0, .ref (κ.1 0)), (1, .int v1), (2, .int v2)]) [0, 1, 2] rfl ?_
      exact ih  r96 out h K
noncomputable def lM_divide_124 (F : Nat) (v1 : Int32) (v2 : Int32) : Nat → Int32 → MS → Option (MS)
  | 0, _, _ => none
  | n + 1, v3, τ => if (4 : Int32) ≤ v3 then some (τ) else gd (vp_in v3 4) (gd (vp_in v3 4) (lM_divide_124 F v1 v2 n (v3 + 1) (s_fresh τ (vp_updL (m_fresh τ) v3.toNatClampNeg (-((m_fresh τ) v3.toNatClampNeg))))))
set_option maxHeartbeats 4000000 in
set_option maxRecDepth 100000 in
theorem lM_divide_124_ok {g : Gm} {κ : ctx} (G : OK g κ RM cM_divide 6 none rm_M_divide) (X : Nat → va_E) (F : Nat) (v1 : Int32) (v2 : Int32) : ∀ (n : Nat) (v3 : Int32) (τ : MS) (out : MS), lM_divide_124 F v1 v2 n v3 τ = some out → (J g κ 6 148 [(0, .ref (κ.1 0)), (1, .int v1), (2, .int v2)] [] (LM κ out X)) → J g κ 6 124 [(0, .ref (κ.1 0)), (1, .int v1), (2, .int v2), (3, .int v3)] [] (LM κ τ X) := by
  intro n
  induction n with
  | zero =>
    intro v3 τ
    intro out h
    rw [lM_divide_124] at h
    cases h
  | succ n ih =>
    intro v3 τ out h K
    rw [lM_divide_124] at h
    refine w_iload_n (pc := 124) (q := 3) G dM_divide_124 rfl rfl ?_
    refine w_iconst (pc := 125) (v := (4 : Int32)) G dM_divide_125 (by decide) ?_
    refine w_icmp_ge (pc := 126) (tgt := 148) G dM_divide_126 (by decide) (fun c126 => ?_) (fun c126 => ?_)
    · have h := if_t c126 h
      obtain rfl := Option.some.inj h
      refine w_sub (lv' := [(0, .ref (κ.1 0)), (1, .int v1), (2, .int v2)]) [0, 1, 2] rfl ?_
      exact K
    · have h := if_f c126 h
      refine w_aload_n (pc := 129) (q := 0) G dM_divide_129 rfl rfl ?_
      refine w_get (pc := 130) (v := .ref (κ.1 4)) (fs := mfl κ τ) G 0 (by decide) rfl rfl wsM_ok 7 (by decide) wd497 rfl dM_divide_130 ?_
      refine w_iload_n (pc := 133) (q := 3) G dM_divide_133 rfl rfl ?_
      refine w_aload_n (pc := 134) (q := 0) G dM_divide_134 rfl rfl ?_
      refine w_get (pc := 135) (v := .ref (κ.1 4)) (fs := mfl κ τ) G 0 (by decide) rfl rfl wsM_ok 7 (by decide) wd497 rfl dM_divide_135 ?_
      refine w_iload_n (pc := 138) (q := 3) G dM_divide_138 rfl rfl ?_
      obtain ⟨i139, h⟩ := gd_some h
      refine w_lald (pc := 139) (n := 4) (f := (m_fresh τ)) G 4 (by decide) rfl i139 dM_divide_139 ?_
      refine w_lneg (pc := 140) G dM_divide_140 ?_
      obtain ⟨i141, h⟩ := gd_some h
      refine w_last (pc := 141) (n := 4) (f := (m_fresh τ)) (L1 := (LM κ (s_fresh τ (vp_updL (m_fresh τ) v3.toNatClampNeg (-((m_fresh τ) v3.toNatClampNeg)))) X)) G 4 (by decide) rfl i141 dM_divide_141 (LM_fresh κ τ X _) ?_
      refine w_iinc (pc := 142) (q0 := 3) (v := (v3 + 1)) (lv' := [(3, .int (v3 + 1)), (0, .ref (κ.1 0)), (1, .int v1), (2, .int v2)]) G dM_divide_142 rfl rfl (by decide) rfl ?_
      refine w_goto (pc := 145) (tgt := 124) G dM_divide_145 (by decide) ?_
      refine w_sub (lv' := [(0, .ref (κ.1 0)), (1, .int v1), (2, .int v2), (3, .int (v3 + 1))]) [1, 2, 3, 0] rfl ?_
      exact ih (v3 + 1) (s_fresh τ (vp_updL (m_fresh τ) v3.toNatClampNeg (-((m_fresh τ) v3.toNatClampNeg)))) out h K
noncomputable def M_divide (F : Nat) (τ : MS) (v1 : Int32) : Option (MS) := gd (vp_in v1 5) ((lM_divide_7 F v1 ((m_pivot τ) v1.toNatClampNeg) F τ).bind (fun o7_7 => gd (vp_in (((4 : Int32) * v1) + ((m_pivot τ) v1.toNatClampNeg)) 16) (if (0 : Int64) ≤ ((m_row o7_7) (((4 : Int32) * v1) + ((m_pivot τ) v1.toNatClampNeg)).toNatClampNeg) then some o7_7 else (M_swap F o7_7 v1).bind (fun r119 => (lM_divide_124 F v1 ((m_pivot τ) v1.toNatClampNeg) F (0 : Int32) r119).bind (fun o124_12 => (M_tidy F o124_12 ((m_pivot τ) v1.toNatClampNeg)).bind (fun r150 => (M_swap F r150 v1).bind (fun r155 => some r155)))))))
set_option maxHeartbeats 4000000 in
set_option maxRecDepth 100000 in
theorem met_M_divide (κ : ctx) (X : Nat → va_E) (F : Nat) (τ : MS) (v1 : Int32) {out : MS} (h : M_divide F τ v1 = some out) : Mt yM_divide cM_divide 6 none rm_M_divide κ [.ref (κ.1 0), .int v1] (LM κ τ X) none (LM κ out X) := by
  refine Mt.of (by decide) (Nat.le_of_ble_eq_true rfl) ?_
  intro g G Fh
  unfold M_divide at h
  show J g κ 6 0 [(0, .ref (κ.1 0)), (1, .int v1)] [] (LM κ τ X)
  refine w_aload_n (pc := 0) (q := 0) G dM_divide_0 rfl rfl ?_
  refine w_get (pc := 1) (v := .ref (κ.1 3)) (fs := mfl κ τ) G 0 (by decide) rfl rfl wsM_ok 6 (by decide) wd496 rfl dM_divide_1 ?_
  refine w_iload_n (pc := 4) (q := 1) G dM_divide_4 rfl rfl ?_
  obtain ⟨i5, h⟩ := gd_some h
  refine w_iald (pc := 5) (n := 5) (f := (m_pivot τ)) G 3 (by decide) rfl i5 dM_divide_5 ?_
  refine w_istore_n (pc := 6) (lv' := [(2, .int ((m_pivot τ) v1.toNatClampNeg)), (0, .ref (κ.1 0)), (1, .int v1)]) G dM_divide_6 rfl (by decide) rfl ?_
  refine w_sub (lv' := [(0, .ref (κ.1 0)), (1, .int v1), (2, .int ((m_pivot τ) v1.toNatClampNeg))]) [1, 2, 0] rfl ?_
  obtain ⟨o7_7, eo7_7, h⟩ := bd h
  refine lM_divide_7_ok G X F v1 ((m_pivot τ) v1.toNatClampNeg) F τ o7_7 eo7_7 ?_
  refine w_aload_n (pc := 102) (q := 0) G dM_divide_102 rfl rfl ?_
  refine w_get (pc := 103) (v := .ref (κ.1 2)) (fs := mfl κ o7_7) G 0 (by decide) rfl rfl wsM_ok 5 (by decide) wd495 rfl dM_divide_103 ?_
  refine w_iconst (pc := 106) (v := (4 : Int32)) G dM_divide_106 (by decide) ?_
  refine w_iload_n (pc := 107) (q := 1) G dM_divide_107 rfl rfl ?_
  refine w_imul (pc := 108) G dM_divide_108 ?_
  refine w_iload_n (pc := 109) (q := 2) G dM_divide_109 rfl rfl ?_
  refine w_iadd (pc := 110) G dM_divide_110 ?_
  obtain ⟨i111, h⟩ := gd_some h
  refine w_lald (pc := 111) (n := 16) (f := (m_row o7_7)) G 2 (by decide) rfl i111 dM_divide_111 ?_
  refine w_lconst (pc := 112) (v := (0 : Int64)) G dM_divide_112 (by decide) ?_
  refine w_lc_ge (pc := 113) (tgt := 158) G dM_divide_113 dM_divide_114 (by decide) (fun c113 => ?_) (fun c113 => ?_)
  · have h := if_t c113 h
    obtain rfl := Option.some.inj h
    exact w_vret (pc := 158) G dM_divide_158 Fh
  · have h := if_f c113 h
    refine w_aload_n (pc := 117) (q := 0) G dM_divide_117 rfl rfl ?_
    refine w_iload_n (pc := 118) (q := 1) G dM_divide_118 rfl rfl ?_
    obtain ⟨r119, e119, h⟩ := bd h
    refine w_callV (pc := 119) (av := [.int v1]) (rest := []) (v := none) (L' := (LM κ r119 X)) (T := TM) (fs := mfl κ o7_7) G 0 0 27 (by decide) rfl rfl cb_M_swap_M_divide wd624 ws26 wd622 (met_M_swap κ X F o7_7 v1 e119) rfl rfl rfl (Nat.le_of_ble_eq_true rfl) dM_divide_119 ?_
    refine w_iconst (pc := 122) (v := (0 : Int32)) G dM_divide_122 (by decide) ?_
    refine w_istore_n (pc := 123) (lv' := [(3, .int (0 : Int32)), (0, .ref (κ.1 0)), (1, .int v1), (2, .int ((m_pivot τ) v1.toNatClampNeg))]) G dM_divide_123 rfl (by decide) rfl ?_
    refine w_sub (lv' := [(0, .ref (κ.1 0)), (1, .int v1), (2, .int ((m_pivot τ) v1.toNatClampNeg)), (3, .int (0 : Int32))]) [1, 2, 3, 0] rfl ?_
    obtain ⟨o124_12, eo124_12, h⟩ := bd h
    refine lM_divide_124_ok G X F v1 ((m_pivot τ) v1.toNatClampNeg) F (0 : Int32) r119 o124_12 eo124_12 ?_
    refine w_aload_n (pc := 148) (q := 0) G dM_divide_148 rfl rfl ?_
    refine w_iload_n (pc := 149) (q := 2) G dM_divide_149 rfl rfl ?_
    obtain ⟨r150, e150, h⟩ := bd h
    refine w_callV (pc := 150) (av := [.int ((m_pivot τ) v1.toNatClampNeg)]) (rest := []) (v := none) (L' := (LM κ r150 X)) (T := TM) (fs := mfl κ o124_12) G 0 0 27 (by decide) rfl rfl cb_M_tidy_M_divide wd609 ws23 wd607 (met_M_tidy κ X F o124_12 ((m_pivot τ) v1.toNatClampNeg) e150) rfl rfl rfl (Nat.le_of_ble_eq_true rfl) dM_divide_150 ?_
    refine w_aload_n (pc := 153) (q := 0) G dM_divide_153 rfl rfl ?_
    refine w_iload_n (pc := 154) (q := 1) G dM_divide_154 rfl rfl ?_
    obtain ⟨r155, e155, h⟩ := bd h
    refine w_callV (pc := 155) (av := [.int v1]) (rest := []) (v := none) (L' := (LM κ r155 X)) (T := TM) (fs := mfl κ r150) G 0 0 27 (by decide) rfl rfl cb_M_swap_M_divide wd624 ws26 wd622 (met_M_swap κ X F r150 v1 e155) rfl rfl rfl (Nat.le_of_ble_eq_true rfl) dM_divide_155 ?_
    obtain rfl := Option.some.inj h
    exact w_vret (pc := 158) G dM_divide_158 Fh
def rm_M_enter : Room := { frames := 3, cells := 0, slots := 0, locals := 76 }
theorem dM_enter_0 : decode cM_enter 0 = .ok (.iconst 0, 1) := by decide +kernel
theorem dM_enter_1 : decode cM_enter 1 = .ok (.istore_n 1, 1) := by decide +kernel
theorem dM_enter_2 : decode cM_enter 2 = .ok (.iload_n 1, 1) := by decide +kernel
theorem dM_enter_3 : decode cM_enter 3 = .ok (.iconst 4, 1) := by decide +kernel
theorem dM_enter_4 : decode cM_enter 4 = .ok (.if_icmp .ge 46, 3) := by decide +kernel
theorem dM_enter_7 : decode cM_enter 7 = .ok (.aload_n 0, 1) := by decide +kernel
theorem dM_enter_8 : decode cM_enter 8 = .ok (.getfield 20, 3) := by decide +kernel
theorem dM_enter_11 : decode cM_enter 11 = .ok (.iload_n 1, 1) := by decide +kernel
theorem dM_enter_12 : decode cM_enter 12 = .ok (.laload, 1) := by decide +kernel
theorem dM_enter_13 : decode cM_enter 13 = .ok (.lconst 0, 1) := by decide +kernel
theorem dM_enter_14 : decode cM_enter 14 = .ok (.lcmp, 1) := by decide +kernel
theorem dM_enter_15 : decode cM_enter 15 = .ok (.ifCond .eq 29, 3) := by decide +kernel
theorem dM_enter_18 : decode cM_enter 18 = .ok (.aload_n 0, 1) := by decide +kernel
theorem dM_enter_19 : decode cM_enter 19 = .ok (.iload_n 1, 1) := by decide +kernel
theorem dM_enter_20 : decode cM_enter 20 = .ok (.invokevirtual 77, 3) := by decide +kernel
theorem dM_enter_23 : decode cM_enter 23 = .ok (.istore_n 2, 1) := by decide +kernel
theorem dM_enter_24 : decode cM_enter 24 = .ok (.iload_n 2, 1) := by decide +kernel
theorem dM_enter_25 : decode cM_enter 25 = .ok (.ifCond .ge 14, 3) := by decide +kernel
theorem dM_enter_28 : decode cM_enter 28 = .ok (.aload_n 0, 1) := by decide +kernel
theorem dM_enter_29 : decode cM_enter 29 = .ok (.iload_n 1, 1) := by decide +kernel
theorem dM_enter_30 : decode cM_enter 30 = .ok (.invokevirtual 89, 3) := by decide +kernel
theorem dM_enter_33 : decode cM_enter 33 = .ok (.aload_n 0, 1) := by decide +kernel
theorem dM_enter_34 : decode cM_enter 34 = .ok (.iload_n 1, 1) := by decide +kernel
theorem dM_enter_35 : decode cM_enter 35 = .ok (.invokevirtual 92, 3) := by decide +kernel
theorem dM_enter_38 : decode cM_enter 38 = .ok (.return_, 1) := by decide +kernel
theorem dM_enter_39 : decode cM_enter 39 = .ok (.aload_n 0, 1) := by decide +kernel
theorem dM_enter_40 : decode cM_enter 40 = .ok (.iload_n 2, 1) := by decide +kernel
theorem dM_enter_41 : decode cM_enter 41 = .ok (.invokevirtual 95, 3) := by decide +kernel
theorem dM_enter_44 : decode cM_enter 44 = .ok (.iinc 1 1, 3) := by decide +kernel
theorem dM_enter_47 : decode cM_enter 47 = .ok (.goto (-45), 3) := by decide +kernel
theorem dM_enter_50 : decode cM_enter 50 = .ok (.return_, 1) := by decide +kernel
theorem cb_M_divide_M_enter : CB yM_divide cM_divide 6 none rm_M_divide rm_M_enter 1 := ⟨wd621, wd8, by decide +kernel, rfl, rfl, by decide⟩
theorem cb_M_insert_M_enter : CB yM_insert cM_insert 4 none rm_M_insert rm_M_enter 1 := ⟨wd617, wd8, by decide +kernel, rfl, rfl, by decide⟩
theorem cb_M_rowAt_M_enter : CB yM_rowAt cM_rowAt 4 (some .int) rm_M_rowAt rm_M_enter 1 := ⟨wd606, wd8, by decide +kernel, rfl, rfl, by decide⟩
theorem cb_M_tidy_M_enter : CB yM_tidy cM_tidy 7 none rm_M_tidy rm_M_enter 1 := ⟨wd610, wd8, by decide +kernel, rfl, rfl, by decide⟩
noncomputable def lM_enter_2 (F : Nat)  : Nat → Int32 → MS → Option ((MS) ⊕ (MS))
  | 0, _, _ => none
  | n + 1, v1, τ => if (4 : Int32) ≤ v1 then some (.inl (τ)) else gd (vp_in v1 4) (if ((m_fresh τ) v1.toNatClampNeg) = (0 : Int64) then lM_enter_2 F  n (v1 + 1) τ else (M_rowAt F τ v1).bind (fun r20 => if 0 ≤ r20 then (M_divide F τ r20).bind (fun r41 => lM_enter_2 F  n (v1 + 1) r41) else (M_tidy F τ v1).bind (fun r30 => (M_insert F r30 v1).bind (fun r35 => some (.inr r35)))))
set_option maxHeartbeats 4000000 in
set_option maxRecDepth 100000 in
theorem lM_enter_2_ok {g : Gm} {κ : ctx} (G : OK g κ RM cM_enter 3 none rm_M_enter) (X : Nat → va_E) (F : Nat)  : ∀ (n : Nat) (v1 : Int32) (τ : MS) (out : (MS) ⊕ (MS)), lM_enter_2 F  n v1 τ = some out → (∀ e, out = .inl e → J g κ 3 50 [] [] (LM κ e X)) → (∀ r, out = .inr r → Fn g κ none (LM κ r X)) → J g κ 3 2 [(0, .ref (κ.1 0)), (1, .int v1)] [] (LM κ τ X) := by
  intro n
  induction n with
  | zero =>
    intro v1 τ
    intro out h
    rw [lM_enter_2] at h
    cases h
  | succ n ih =>
    intro v1 τ out h K K2
    rw [lM_enter_2] at h
    refine w_iload_n (pc := 2) (q := 1) G dM_enter_2 rfl rfl ?_
    refine w_iconst (pc := 3) (v := (4 : Int32)) G dM_enter_3 (by decide) ?_
    refine w_icmp_ge (pc := 4) (tgt := 50) G dM_enter_4 (by decide) (fun c4 => ?_) (fun c4 => ?_)
    · have h := if_t c4 h
      obtain rfl := Option.some.inj h
      refine w_sub (lv' := []) [] rfl ?_
      exact K _ rfl
    · have h := if_f c4 h
      refine w_aload_n (pc := 7) (q := 0) G dM_enter_7 rfl rfl ?_
      refine w_get (pc := 8) (v := .ref (κ.1 4)) (fs := mfl κ τ) G 0 (by decide) rfl rfl wsM_ok 7 (by decide) wd497 rfl dM_enter_8 ?_
      refine w_iload_n (pc := 11) (q := 1) G dM_enter_11 rfl rfl ?_
      obtain ⟨i12, h⟩ := gd_some h
      refine w_lald (pc := 12) (n := 4) (f := (m_fresh τ)) G 4 (by decide) rfl i12 dM_enter_12 ?_
      refine w_lconst (pc := 13) (v := (0 : Int64)) G dM_enter_13 (by decide) ?_
      refine w_lc_eq (pc := 14) (tgt := 44) G dM_enter_14 dM_enter_15 (by decide) (fun c14 => ?_) (fun c14 => ?_)
      · have h := if_t c14 h
        refine w_iinc (pc := 44) (q0 := 1) (v := (v1 + 1)) (lv' := [(1, .int (v1 + 1)), (0, .ref (κ.1 0))]) G dM_enter_44 rfl rfl (by decide) rfl ?_
        refine w_goto (pc := 47) (tgt := 2) G dM_enter_47 (by decide) ?_
        refine w_sub (lv' := [(0, .ref (κ.1 0)), (1, .int (v1 + 1))]) [1, 0] rfl ?_
        exact ih (v1 + 1) τ out h K K2
      · have h := if_f c14 h
        refine w_aload_n (pc := 18) (q := 0) G dM_enter_18 rfl rfl ?_
        refine w_iload_n (pc := 19) (q := 1) G dM_enter_19 rfl rfl ?_
        obtain ⟨r20, e20, h⟩ := bd h
        refine w_callV (pc := 20) (av := [.int v1]) (rest := []) (v := some (.int r20)) (L' := (LM κ τ X)) (T := TM) (fs := mfl κ τ) G 0 0 27 (by decide) rfl rfl cb_M_rowAt_M_enter wd605 ws22 wd603 (met_M_rowAt κ X F τ v1 e20) rfl rfl rfl (Nat.le_of_ble_eq_true rfl) dM_enter_20 ?_
        refine w_istore_n (pc := 23) (lv' := [(2, .int r20), (0, .ref (κ.1 0)), (1, .int v1)]) G dM_enter_23 rfl (by decide) rfl ?_
        refine w_iload_n (pc := 24) (q := 0) G dM_enter_24 rfl rfl ?_
        refine w_if_ge (pc := 25) (tgt := 39) G dM_enter_25 (by decide) (fun c25 => ?_) (fun c25 => ?_)
        · have h := if_t c25 h
          refine w_aload_n (pc := 39) (q := 1) G dM_enter_39 rfl rfl ?_
          refine w_iload_n (pc := 40) (q := 0) G dM_enter_40 rfl rfl ?_
          obtain ⟨r41, e41, h⟩ := bd h
          refine w_callV (pc := 41) (av := [.int r20]) (rest := []) (v := none) (L' := (LM κ r41 X)) (T := TM) (fs := mfl κ τ) G 0 0 27 (by decide) rfl rfl cb_M_divide_M_enter wd620 ws25 wd618 (met_M_divide κ X F τ r20 e41) rfl rfl rfl (Nat.le_of_ble_eq_true rfl) dM_enter_41 ?_
          refine w_iinc (pc := 44) (q0 := 2) (v := (v1 + 1)) (lv' := [(1, .int (v1 + 1)), (2, .int r20), (0, .ref (κ.1 0))]) G dM_enter_44 rfl rfl (by decide) rfl ?_
          refine w_goto (pc := 47) (tgt := 2) G dM_enter_47 (by decide) ?_
          refine w_sub (lv' := [(0, .ref (κ.1 0)), (1, .int (v1 + 1))]) [2, 0] rfl ?_
          exact ih (v1 + 1) r41 out h K K2
        · have h := if_f c25 h
          refine w_aload_n (pc := 28) (q := 1) G dM_enter_28 rfl rfl ?_
          refine w_iload_n (pc := 29) (q := 2) G dM_enter_29 rfl rfl ?_
          obtain ⟨r30, e30, h⟩ := bd h
          refine w_callV (pc := 30) (av := [.int v1]) (rest := []) (v := none) (L' := (LM κ r30 X)) (T := TM) (fs := mfl κ τ) G 0 0 27 (by decide) rfl rfl cb_M_tidy_M_enter wd609 ws23 wd607 (met_M_tidy κ X F τ v1 e30) rfl rfl rfl (Nat.le_of_ble_eq_true rfl) dM_enter_30 ?_
          refine w_aload_n (pc := 33) (q := 1) G dM_enter_33 rfl rfl ?_
          refine w_iload_n (pc := 34) (q := 2) G dM_enter_34 rfl rfl ?_
          obtain ⟨r35, e35, h⟩ := bd h
          refine w_callV (pc := 35) (av := [.int v1]) (rest := []) (v := none) (L' := (LM κ r35 X)) (T := TM) (fs := mfl κ r30) G 0 0 27 (by decide) rfl rfl cb_M_insert_M_enter wd616 ws24 wd614 (met_M_insert κ X F r30 v1 e35) rfl rfl rfl (Nat.le_of_ble_eq_true rfl) dM_enter_35 ?_
          obtain rfl := Option.some.inj h
          exact w_vret (pc := 38) G dM_enter_38 (K2 _ rfl)
noncomputable def M_enter (F : Nat) (τ : MS)  : Option (MS) := (lM_enter_2 F  F (0 : Int32) τ).bind (fun o2_8 => match o2_8 with | .inl o2_8 => some o2_8 | .inr o2_8 => some o2_8)
set_option maxHeartbeats 4000000 in
set_option maxRecDepth 100000 in
theorem met_M_enter (κ : ctx) (X : Nat → va_E) (F : Nat) (τ : MS)  {out : MS} (h : M_enter F τ  = some out) : Mt yM_enter cM_enter 3 none rm_M_enter κ [.ref (κ.1 0)] (LM κ τ X) none (LM κ out X) := by
  refine Mt.of (by decide) (Nat.le_of_ble_eq_true rfl) ?_
  intro g G Fh
  unfold M_enter at h
  show J g κ 3 0 [(0, .ref (κ.1 0))] [] (LM κ τ X)
  refine w_iconst (pc := 0) (v := (0 : Int32)) G dM_enter_0 (by decide) ?_
  refine w_istore_n (pc := 1) (lv' := [(1, .int (0 : Int32)), (0, .ref (κ.1 0))]) G dM_enter_1 rfl (by decide) rfl ?_
  refine w_sub (lv' := [(0, .ref (κ.1 0)), (1, .int (0 : Int32))]) [1, 0] rfl ?_
  obtain ⟨o2_8, eo2_8, h⟩ := bd h
  rcases o2_8 with o2_8 | o2_8
  · refine lM_enter_2_ok G X F  F (0 : Int32) τ (.inl o2_8) eo2_8 (fun e he => ?_) (fun r he => by cases he)
    cases he
    dsimp only at h
    obtain rfl := Option.some.inj h
    exact w_vret (pc := 50) G dM_enter_50 Fh
  · refine lM_enter_2_ok G X F  F (0 : Int32) τ (.inr o2_8) eo2_8 (fun e he => by cases he) (fun r he => ?_)
    cases he
    dsimp only at h
    obtain rfl := Option.some.inj h
    exact Fh
def rm_M_look : Room := { frames := 4, cells := 0, slots := 0, locals := 98 }
theorem dM_look_0 : decode cM_look 0 = .ok (.aload_n 0, 1) := by decide +kernel
theorem dM_look_1 : decode cM_look 1 = .ok (.getfield 53, 3) := by decide +kernel
theorem dM_look_4 : decode cM_look 4 = .ok (.ifCond .eq 12, 3) := by decide +kernel
theorem dM_look_7 : decode cM_look 7 = .ok (.aload_n 0, 1) := by decide +kernel
theorem dM_look_8 : decode cM_look 8 = .ok (.getfield 98, 3) := by decide +kernel
theorem dM_look_11 : decode cM_look 11 = .ok (.iload_n 1, 1) := by decide +kernel
theorem dM_look_12 : decode cM_look 12 = .ok (.if_icmp .ne 4, 3) := by decide +kernel
theorem dM_look_15 : decode cM_look 15 = .ok (.return_, 1) := by decide +kernel
theorem dM_look_16 : decode cM_look 16 = .ok (.aload_n 0, 1) := by decide +kernel
theorem dM_look_17 : decode cM_look 17 = .ok (.iconst 1, 1) := by decide +kernel
theorem dM_look_18 : decode cM_look 18 = .ok (.putfield 53, 3) := by decide +kernel
theorem dM_look_21 : decode cM_look 21 = .ok (.aload_n 0, 1) := by decide +kernel
theorem dM_look_22 : decode cM_look 22 = .ok (.iload_n 1, 1) := by decide +kernel
theorem dM_look_23 : decode cM_look 23 = .ok (.putfield 98, 3) := by decide +kernel
theorem dM_look_26 : decode cM_look 26 = .ok (.aload_n 0, 1) := by decide +kernel
theorem dM_look_27 : decode cM_look 27 = .ok (.iconst 0, 1) := by decide +kernel
theorem dM_look_28 : decode cM_look 28 = .ok (.putfield 74, 3) := by decide +kernel
theorem dM_look_31 : decode cM_look 31 = .ok (.iconst 0, 1) := by decide +kernel
theorem dM_look_32 : decode cM_look 32 = .ok (.istore_n 2, 1) := by decide +kernel
theorem dM_look_33 : decode cM_look 33 = .ok (.iload_n 2, 1) := by decide +kernel
theorem dM_look_34 : decode cM_look 34 = .ok (.aload_n 0, 1) := by decide +kernel
theorem dM_look_35 : decode cM_look 35 = .ok (.getfield 67, 3) := by decide +kernel
theorem dM_look_38 : decode cM_look 38 = .ok (.if_icmp .ge 48, 3) := by decide +kernel
theorem dM_look_41 : decode cM_look 41 = .ok (.iload_n 2, 1) := by decide +kernel
theorem dM_look_42 : decode cM_look 42 = .ok (.iload_n 1, 1) := by decide +kernel
theorem dM_look_43 : decode cM_look 43 = .ok (.if_icmp .eq 37, 3) := by decide +kernel
theorem dM_look_46 : decode cM_look 46 = .ok (.iconst 0, 1) := by decide +kernel
theorem dM_look_47 : decode cM_look 47 = .ok (.istore_n 3, 1) := by decide +kernel
theorem dM_look_48 : decode cM_look 48 = .ok (.iload_n 3, 1) := by decide +kernel
theorem dM_look_49 : decode cM_look 49 = .ok (.iconst 4, 1) := by decide +kernel
theorem dM_look_50 : decode cM_look 50 = .ok (.if_icmp .ge 26, 3) := by decide +kernel
theorem dM_look_53 : decode cM_look 53 = .ok (.aload_n 0, 1) := by decide +kernel
theorem dM_look_54 : decode cM_look 54 = .ok (.getfield 20, 3) := by decide +kernel
theorem dM_look_57 : decode cM_look 57 = .ok (.iload_n 3, 1) := by decide +kernel
theorem dM_look_58 : decode cM_look 58 = .ok (.aload_n 0, 1) := by decide +kernel
theorem dM_look_59 : decode cM_look 59 = .ok (.getfield 7, 3) := by decide +kernel
theorem dM_look_62 : decode cM_look 62 = .ok (.iconst 4, 1) := by decide +kernel
theorem dM_look_63 : decode cM_look 63 = .ok (.iload_n 2, 1) := by decide +kernel
theorem dM_look_64 : decode cM_look 64 = .ok (.imul, 1) := by decide +kernel
theorem dM_look_65 : decode cM_look 65 = .ok (.iload_n 3, 1) := by decide +kernel
theorem dM_look_66 : decode cM_look 66 = .ok (.iadd, 1) := by decide +kernel
theorem dM_look_67 : decode cM_look 67 = .ok (.iaload, 1) := by decide +kernel
theorem dM_look_68 : decode cM_look 68 = .ok (.i2l, 1) := by decide +kernel
theorem dM_look_69 : decode cM_look 69 = .ok (.lastore, 1) := by decide +kernel
theorem dM_look_70 : decode cM_look 70 = .ok (.iinc 3 1, 3) := by decide +kernel
theorem dM_look_73 : decode cM_look 73 = .ok (.goto (-25), 3) := by decide +kernel
theorem dM_look_76 : decode cM_look 76 = .ok (.aload_n 0, 1) := by decide +kernel
theorem dM_look_77 : decode cM_look 77 = .ok (.invokevirtual 101, 3) := by decide +kernel
theorem dM_look_80 : decode cM_look 80 = .ok (.iinc 2 1, 3) := by decide +kernel
theorem dM_look_83 : decode cM_look 83 = .ok (.goto (-50), 3) := by decide +kernel
theorem dM_look_86 : decode cM_look 86 = .ok (.return_, 1) := by decide +kernel
theorem cb_M_enter_M_look : CB yM_enter cM_enter 3 none rm_M_enter rm_M_look 0 := ⟨wd602, wd8, by decide +kernel, rfl, rfl, by decide⟩
noncomputable def lM_look_48 (F : Nat) (v1 : Int32) (v2 : Int32) : Nat → Int32 → MS → Option (MS)
  | 0, _, _ => none
  | n + 1, v3, τ => if (4 : Int32) ≤ v3 then some (τ) else gd (vp_in (((4 : Int32) * v2) + v3) 24) (gd (vp_in v3 4) (lM_look_48 F v1 v2 n (v3 + 1) (s_fresh τ (vp_updL (m_fresh τ) v3.toNatClampNeg (((m_generator τ) (((4 : Int32) * v2) + v3).toNatClampNeg).toInt64)))))
set_option maxHeartbeats 4000000 in
set_option maxRecDepth 100000 in
theorem lM_look_48_ok {g : Gm} {κ : ctx} (G : OK g κ RM cM_look 4 none rm_M_look) (X : Nat → va_E) (F : Nat) (v1 : Int32) (v2 : Int32) : ∀ (n : Nat) (v3 : Int32) (τ : MS) (out : MS), lM_look_48 F v1 v2 n v3 τ = some out → (J g κ 4 76 [(0, .ref (κ.1 0)), (1, .int v1), (2, .int v2)] [] (LM κ out X)) → J g κ 4 48 [(0, .ref (κ.1 0)), (1, .int v1), (2, .int v2), (3, .int v3)] [] (LM κ τ X) := by
  intro n
  induction n with
  | zero =>
    intro v3 τ
    intro out h
    rw [lM_look_48] at h
    cases h
  | succ n ih =>
    intro v3 τ out h K
    rw [lM_look_48] at h
    refine w_iload_n (pc := 48) (q := 3) G dM_look_48 rfl rfl ?_
    refine w_iconst (pc := 49) (v := (4 : Int32)) G dM_look_49 (by decide) ?_
    refine w_icmp_ge (pc := 50) (tgt := 76) G dM_look_50 (by decide) (fun c50 => ?_) (fun c50 => ?_)
    · have h := if_t c50 h
      obtain rfl := Option.some.inj h
      refine w_sub (lv' := [(0, .ref (κ.1 0)), (1, .int v1), (2, .int v2)]) [0, 1, 2] rfl ?_
      exact K
    · have h := if_f c50 h
      refine w_aload_n (pc := 53) (q := 0) G dM_look_53 rfl rfl ?_
      refine w_get (pc := 54) (v := .ref (κ.1 4)) (fs := mfl κ τ) G 0 (by decide) rfl rfl wsM_ok 7 (by decide) wd497 rfl dM_look_54 ?_
      refine w_iload_n (pc := 57) (q := 3) G dM_look_57 rfl rfl ?_
      refine w_aload_n (pc := 58) (q := 0) G dM_look_58 rfl rfl ?_
      refine w_get (pc := 59) (v := .ref (κ.1 1)) (fs := mfl κ τ) G 0 (by decide) rfl rfl wsM_ok 1 (by decide) wd491 rfl dM_look_59 ?_
      refine w_iconst (pc := 62) (v := (4 : Int32)) G dM_look_62 (by decide) ?_
      refine w_iload_n (pc := 63) (q := 2) G dM_look_63 rfl rfl ?_
      refine w_imul (pc := 64) G dM_look_64 ?_
      refine w_iload_n (pc := 65) (q := 3) G dM_look_65 rfl rfl ?_
      refine w_iadd (pc := 66) G dM_look_66 ?_
      obtain ⟨i67, h⟩ := gd_some h
      refine w_iald (pc := 67) (n := 24) (f := (m_generator τ)) G 1 (by decide) rfl i67 dM_look_67 ?_
      refine w_i2l (pc := 68) G dM_look_68 ?_
      obtain ⟨i69, h⟩ := gd_some h
      refine w_last (pc := 69) (n := 4) (f := (m_fresh τ)) (L1 := (LM κ (s_fresh τ (vp_updL (m_fresh τ) v3.toNatClampNeg (((m_generator τ) (((4 : Int32) * v2) + v3).toNatClampNeg).toInt64))) X)) G 4 (by decide) rfl i69 dM_look_69 (LM_fresh κ τ X _) ?_
      refine w_iinc (pc := 70) (q0 := 3) (v := (v3 + 1)) (lv' := [(3, .int (v3 + 1)), (0, .ref (κ.1 0)), (1, .int v1), (2, .int v2)]) G dM_look_70 rfl rfl (by decide) rfl ?_
      refine w_goto (pc := 73) (tgt := 48) G dM_look_73 (by decide) ?_
      refine w_sub (lv' := [(0, .ref (κ.1 0)), (1, .int v1), (2, .int v2), (3, .int (v3 + 1))]) [1, 2, 3, 0] rfl ?_
      exact ih (v3 + 1) (s_fresh τ (vp_updL (m_fresh τ) v3.toNatClampNeg (((m_generator τ) (((4 : Int32) * v2) + v3).toNatClampNeg).toInt64))) out h K
noncomputable def lM_look_33 (F : Nat) (v1 : Int32) : Nat → Int32 → MS → Option (MS)
  | 0, _, _ => none
  | n + 1, v2, τ => if (m_many τ) ≤ v2 then some (τ) else if v2 = v1 then lM_look_33 F v1 n (v2 + 1) τ else (lM_look_48 F v1 v2 F (0 : Int32) τ).bind (fun o48_10 => (M_enter F o48_10 ).bind (fun r77 => lM_look_33 F v1 n (v2 + 1) r77))
set_option maxHeartbeats 4000000 in
set_option maxRecDepth 100000 in
theorem lM_look_33_ok {g : Gm} {κ : ctx} (G : OK g κ RM cM_look 4 none rm_M_look) (X : Nat → va_E) (F : Nat) (v1 : Int32) : ∀ (n : Nat) (v2 : Int32) (τ : MS) (out : MS), lM_look_33 F v1 n v2 τ = some out → (J g κ 4 86 [] [] (LM κ out X)) → J g κ 4 33 [(0, .ref (κ.1 0)), (1, .int v1), (2, .int v2)] [] (LM κ τ X) := by
  intro n
  induction n with
  | zero =>
    intro v2 τ
    intro out h
    rw [lM_look_33] at h
    cases h
  | succ n ih =>
    intro v2 τ out h K
    rw [lM_look_33] at h
    refine w_iload_n (pc := 33) (q := 2) G dM_look_33 rfl rfl ?_
    refine w_aload_n (pc := 34) (q := 0) G dM_look_34 rfl rfl ?_
    refine w_get (pc := 35) (v := .int (m_many τ)) (fs := mfl κ τ) G 0 (by decide) rfl rfl wsM_ok 0 (by decide) wd490 rfl dM_look_35 ?_
    refine w_icmp_ge (pc := 38) (tgt := 86) G dM_look_38 (by decide) (fun c38 => ?_) (fun c38 => ?_)
    · have h := if_t c38 h
      obtain rfl := Option.some.inj h
      refine w_sub (lv' := []) [] rfl ?_
      exact K
    · have h := if_f c38 h
      refine w_iload_n (pc := 41) (q := 2) G dM_look_41 rfl rfl ?_
      refine w_iload_n (pc := 42) (q := 1) G dM_look_42 rfl rfl ?_
      refine w_icmp_eq (pc := 43) (tgt := 80) G dM_look_43 (by decide) (fun c43 => ?_) (fun c43 => ?_)
      · have h := if_t c43 h
        refine w_iinc (pc := 80) (q0 := 2) (v := (v2 + 1)) (lv' := [(2, .int (v2 + 1)), (0, .ref (κ.1 0)), (1, .int v1)]) G dM_look_80 rfl rfl (by decide) rfl ?_
        refine w_goto (pc := 83) (tgt := 33) G dM_look_83 (by decide) ?_
        refine w_sub (lv' := [(0, .ref (κ.1 0)), (1, .int v1), (2, .int (v2 + 1))]) [1, 2, 0] rfl ?_
        exact ih (v2 + 1) τ out h K
      · have h := if_f c43 h
        refine w_iconst (pc := 46) (v := (0 : Int32)) G dM_look_46 (by decide) ?_
        refine w_istore_n (pc := 47) (lv' := [(3, .int (0 : Int32)), (0, .ref (κ.1 0)), (1, .int v1), (2, .int v2)]) G dM_look_47 rfl (by decide) rfl ?_
        refine w_sub (lv' := [(0, .ref (κ.1 0)), (1, .int v1), (2, .int v2), (3, .int (0 : Int32))]) [1, 2, 3, 0] rfl ?_
        obtain ⟨o48_10, eo48_10, h⟩ := bd h
        refine lM_look_48_ok G X F v1 v2 F (0 : Int32) τ o48_10 eo48_10 ?_
        refine w_aload_n (pc := 76) (q := 0) G dM_look_76 rfl rfl ?_
        obtain ⟨r77, e77, h⟩ := bd h
        refine w_callV (pc := 77) (av := []) (rest := []) (v := none) (L' := (LM κ r77 X)) (T := TM) (fs := mfl κ o48_10) G 0 0 27 (by decide) rfl rfl cb_M_enter_M_look wd601 ws21 wd599 (met_M_enter κ X F o48_10  e77) rfl rfl rfl (Nat.le_of_ble_eq_true rfl) dM_look_77 ?_
        refine w_iinc (pc := 80) (q0 := 2) (v := (v2 + 1)) (lv' := [(2, .int (v2 + 1)), (0, .ref (κ.1 0)), (1, .int v1)]) G dM_look_80 rfl rfl (by decide) rfl ?_
        refine w_goto (pc := 83) (tgt := 33) G dM_look_83 (by decide) ?_
        refine w_sub (lv' := [(0, .ref (κ.1 0)), (1, .int v1), (2, .int (v2 + 1))]) [1, 2, 0] rfl ?_
        exact ih (v2 + 1) r77 out h K
noncomputable def M_look (F : Nat) (τ : MS) (v1 : Int32) : Option (MS) := if (m_known τ) = 0 then (lM_look_33 F v1 F (0 : Int32) (s_rows (s_without (s_known τ ((1 : Int32))) (v1)) ((0 : Int32)))).bind (fun o33_10 => some o33_10) else if (m_without τ) = v1 then some τ else (lM_look_33 F v1 F (0 : Int32) (s_rows (s_without (s_known τ ((1 : Int32))) (v1)) ((0 : Int32)))).bind (fun o33_13 => some o33_13)
set_option maxHeartbeats 4000000 in
set_option maxRecDepth 100000 in
theorem met_M_look (κ : ctx) (X : Nat → va_E) (F : Nat) (τ : MS) (v1 : Int32) {out : MS} (h : M_look F τ v1 = some out) : Mt yM_look cM_look 4 none rm_M_look κ [.ref (κ.1 0), .int v1] (LM κ τ X) none (LM κ out X) := by
  refine Mt.of (by decide) (Nat.le_of_ble_eq_true rfl) ?_
  intro g G Fh
  unfold M_look at h
  show J g κ 4 0 [(0, .ref (κ.1 0)), (1, .int v1)] [] (LM κ τ X)
  refine w_aload_n (pc := 0) (q := 0) G dM_look_0 rfl rfl ?_
  refine w_get (pc := 1) (v := .int (m_known τ)) (fs := mfl κ τ) G 0 (by decide) rfl rfl wsM_ok 2 (by decide) wd492 rfl dM_look_1 ?_
  refine w_if_eq (pc := 4) (tgt := 16) G dM_look_4 (by decide) (fun c4 => ?_) (fun c4 => ?_)
  · have h := if_t c4 h
    refine w_aload_n (pc := 16) (q := 0) G dM_look_16 rfl rfl ?_
    refine w_iconst (pc := 17) (v := (1 : Int32)) G dM_look_17 (by decide) ?_
    refine w_put (pc := 18) (fs := mfl κ τ) (L1 := (LM κ (s_known τ ((1 : Int32))) X)) G 0 (by decide) rfl rfl wsM_ok tyM tyM_ok nmM 2 (by decide) wd492 rfl rfl rfl (Nat.le_of_ble_eq_true rfl) dM_look_18 (LMf_known κ τ X _) ?_
    refine w_aload_n (pc := 21) (q := 0) G dM_look_21 rfl rfl ?_
    refine w_iload_n (pc := 22) (q := 1) G dM_look_22 rfl rfl ?_
    refine w_put (pc := 23) (fs := mfl κ (s_known τ ((1 : Int32)))) (L1 := (LM κ (s_without (s_known τ ((1 : Int32))) (v1)) X)) G 0 (by decide) rfl rfl wsM_ok tyM tyM_ok nmM 3 (by decide) wd493 rfl rfl rfl (Nat.le_of_ble_eq_true rfl) dM_look_23 (LMf_without κ (s_known τ ((1 : Int32))) X _) ?_
    refine w_aload_n (pc := 26) (q := 0) G dM_look_26 rfl rfl ?_
    refine w_iconst (pc := 27) (v := (0 : Int32)) G dM_look_27 (by decide) ?_
    refine w_put (pc := 28) (fs := mfl κ (s_without (s_known τ ((1 : Int32))) (v1))) (L1 := (LM κ (s_rows (s_without (s_known τ ((1 : Int32))) (v1)) ((0 : Int32))) X)) G 0 (by decide) rfl rfl wsM_ok tyM tyM_ok nmM 4 (by decide) wd494 rfl rfl rfl (Nat.le_of_ble_eq_true rfl) dM_look_28 (LMf_rows κ (s_without (s_known τ ((1 : Int32))) (v1)) X _) ?_
    refine w_iconst (pc := 31) (v := (0 : Int32)) G dM_look_31 (by decide) ?_
    refine w_istore_n (pc := 32) (lv' := [(2, .int (0 : Int32)), (0, .ref (κ.1 0)), (1, .int v1)]) G dM_look_32 rfl (by decide) rfl ?_
    refine w_sub (lv' := [(0, .ref (κ.1 0)), (1, .int v1), (2, .int (0 : Int32))]) [1, 2, 0] rfl ?_
    obtain ⟨o33_10, eo33_10, h⟩ := bd h
    refine lM_look_33_ok G X F v1 F (0 : Int32) (s_rows (s_without (s_known τ ((1 : Int32))) (v1)) ((0 : Int32))) o33_10 eo33_10 ?_
    obtain rfl := Option.some.inj h
    exact w_vret (pc := 86) G dM_look_86 Fh
  · have h := if_f c4 h
    refine w_aload_n (pc := 7) (q := 0) G dM_look_7 rfl rfl ?_
    refine w_get (pc := 8) (v := .int (m_without τ)) (fs := mfl κ τ) G 0 (by decide) rfl rfl wsM_ok 3 (by decide) wd493 rfl dM_look_8 ?_
    refine w_iload_n (pc := 11) (q := 1) G dM_look_11 rfl rfl ?_
    refine w_icmp_ne (pc := 12) (tgt := 16) G dM_look_12 (by decide) (fun c12 => ?_) (fun c12 => ?_)
    · have h := if_t c12 h
      obtain rfl := Option.some.inj h
      exact w_vret (pc := 15) G dM_look_15 Fh
    · have h := if_f c12 h
      refine w_aload_n (pc := 16) (q := 0) G dM_look_16 rfl rfl ?_
      refine w_iconst (pc := 17) (v := (1 : Int32)) G dM_look_17 (by decide) ?_
      refine w_put (pc := 18) (fs := mfl κ τ) (L1 := (LM κ (s_known τ ((1 : Int32))) X)) G 0 (by decide) rfl rfl wsM_ok tyM tyM_ok nmM 2 (by decide) wd492 rfl rfl rfl (Nat.le_of_ble_eq_true rfl) dM_look_18 (LMf_known κ τ X _) ?_
      refine w_aload_n (pc := 21) (q := 0) G dM_look_21 rfl rfl ?_
      refine w_iload_n (pc := 22) (q := 1) G dM_look_22 rfl rfl ?_
      refine w_put (pc := 23) (fs := mfl κ (s_known τ ((1 : Int32)))) (L1 := (LM κ (s_without (s_known τ ((1 : Int32))) (v1)) X)) G 0 (by decide) rfl rfl wsM_ok tyM tyM_ok nmM 3 (by decide) wd493 rfl rfl rfl (Nat.le_of_ble_eq_true rfl) dM_look_23 (LMf_without κ (s_known τ ((1 : Int32))) X _) ?_
      refine w_aload_n (pc := 26) (q := 0) G dM_look_26 rfl rfl ?_
      refine w_iconst (pc := 27) (v := (0 : Int32)) G dM_look_27 (by decide) ?_
      refine w_put (pc := 28) (fs := mfl κ (s_without (s_known τ ((1 : Int32))) (v1))) (L1 := (LM κ (s_rows (s_without (s_known τ ((1 : Int32))) (v1)) ((0 : Int32))) X)) G 0 (by decide) rfl rfl wsM_ok tyM tyM_ok nmM 4 (by decide) wd494 rfl rfl rfl (Nat.le_of_ble_eq_true rfl) dM_look_28 (LMf_rows κ (s_without (s_known τ ((1 : Int32))) (v1)) X _) ?_
      refine w_iconst (pc := 31) (v := (0 : Int32)) G dM_look_31 (by decide) ?_
      refine w_istore_n (pc := 32) (lv' := [(2, .int (0 : Int32)), (0, .ref (κ.1 0)), (1, .int v1)]) G dM_look_32 rfl (by decide) rfl ?_
      refine w_sub (lv' := [(0, .ref (κ.1 0)), (1, .int v1), (2, .int (0 : Int32))]) [1, 2, 0] rfl ?_
      obtain ⟨o33_13, eo33_13, h⟩ := bd h
      refine lM_look_33_ok G X F v1 F (0 : Int32) (s_rows (s_without (s_known τ ((1 : Int32))) (v1)) ((0 : Int32))) o33_13 eo33_13 ?_
      obtain rfl := Option.some.inj h
      exact w_vret (pc := 86) G dM_look_86 Fh
def rm_M_rank : Room := { frames := 5, cells := 0, slots := 0, locals := 121 }
theorem dM_rank_0 : decode cM_rank 0 = .ok (.aload_n 0, 1) := by decide +kernel
theorem dM_rank_1 : decode cM_rank 1 = .ok (.iconst (-1), 1) := by decide +kernel
theorem dM_rank_2 : decode cM_rank 2 = .ok (.invokevirtual 107, 3) := by decide +kernel
theorem dM_rank_5 : decode cM_rank 5 = .ok (.aload_n 0, 1) := by decide +kernel
theorem dM_rank_6 : decode cM_rank 6 = .ok (.getfield 74, 3) := by decide +kernel
theorem dM_rank_9 : decode cM_rank 9 = .ok (.ireturn, 1) := by decide +kernel
theorem cb_M_look_M_rank : CB yM_look cM_look 4 none rm_M_look rm_M_rank 1 := ⟨wd598, wd8, by decide +kernel, rfl, rfl, by decide⟩
noncomputable def M_rank (F : Nat) (τ : MS)  : Option (Int32 × MS) := (M_look F τ (-1 : Int32)).bind (fun r2 => some ((m_rows r2), r2))
set_option maxHeartbeats 4000000 in
set_option maxRecDepth 100000 in
theorem met_M_rank (κ : ctx) (X : Nat → va_E) (F : Nat) (τ : MS)  {out : Int32 × MS} (h : M_rank F τ  = some out) : Mt yM_rank cM_rank 1 (some .int) rm_M_rank κ [.ref (κ.1 0)] (LM κ τ X) (some (.int out.1)) (LM κ out.2 X) := by
  refine Mt.of (by decide) (Nat.le_of_ble_eq_true rfl) ?_
  intro g G Fh
  unfold M_rank at h
  show J g κ 1 0 [(0, .ref (κ.1 0))] [] (LM κ τ X)
  refine w_aload_n (pc := 0) (q := 0) G dM_rank_0 rfl rfl ?_
  refine w_iconst (pc := 1) (v := (-1 : Int32)) G dM_rank_1 (by decide) ?_
  obtain ⟨r2, e2, h⟩ := bd h
  refine w_callV (pc := 2) (av := [.int (-1 : Int32)]) (rest := []) (v := none) (L' := (LM κ r2 X)) (T := TM) (fs := mfl κ τ) G 0 0 27 (by decide) rfl rfl cb_M_look_M_rank wd597 ws20 wd595 (met_M_look κ X F τ (-1 : Int32) e2) rfl rfl rfl (Nat.le_of_ble_eq_true rfl) dM_rank_2 ?_
  refine w_aload_n (pc := 5) (q := 0) G dM_rank_5 rfl rfl ?_
  refine w_get (pc := 6) (v := .int (m_rows r2)) (fs := mfl κ r2) G 0 (by decide) rfl rfl wsM_ok 4 (by decide) wd494 rfl dM_rank_6 ?_
  obtain rfl := Option.some.inj h
  exact w_iret (pc := 9) G dM_rank_9 Fh
end
section
def rm_M_two : Room := { frames := 0, cells := 0, slots := 0, locals := 0 }
theorem dM_two_0 : decode cM_two 0 = .ok (.aload_n 0, 1) := by decide +kernel
theorem dM_two_1 : decode cM_two 1 = .ok (.getfield 13, 3) := by decide +kernel
theorem dM_two_4 : decode cM_two 4 = .ok (.iconst 4, 1) := by decide +kernel
theorem dM_two_5 : decode cM_two 5 = .ok (.iload_n 1, 1) := by decide +kernel
theorem dM_two_6 : decode cM_two 6 = .ok (.imul, 1) := by decide +kernel
theorem dM_two_7 : decode cM_two 7 = .ok (.iload_n 3, 1) := by decide +kernel
theorem dM_two_8 : decode cM_two 8 = .ok (.iadd, 1) := by decide +kernel
theorem dM_two_9 : decode cM_two 9 = .ok (.laload, 1) := by decide +kernel
theorem dM_two_10 : decode cM_two 10 = .ok (.aload_n 0, 1) := by decide +kernel
theorem dM_two_11 : decode cM_two 11 = .ok (.getfield 13, 3) := by decide +kernel
theorem dM_two_14 : decode cM_two 14 = .ok (.iconst 4, 1) := by decide +kernel
theorem dM_two_15 : decode cM_two 15 = .ok (.iload_n 2, 1) := by decide +kernel
theorem dM_two_16 : decode cM_two 16 = .ok (.imul, 1) := by decide +kernel
theorem dM_two_17 : decode cM_two 17 = .ok (.iload 4, 2) := by decide +kernel
theorem dM_two_19 : decode cM_two 19 = .ok (.iadd, 1) := by decide +kernel
theorem dM_two_20 : decode cM_two 20 = .ok (.laload, 1) := by decide +kernel
theorem dM_two_21 : decode cM_two 21 = .ok (.lmul, 1) := by decide +kernel
theorem dM_two_22 : decode cM_two 22 = .ok (.aload_n 0, 1) := by decide +kernel
theorem dM_two_23 : decode cM_two 23 = .ok (.getfield 13, 3) := by decide +kernel
theorem dM_two_26 : decode cM_two 26 = .ok (.iconst 4, 1) := by decide +kernel
theorem dM_two_27 : decode cM_two 27 = .ok (.iload_n 1, 1) := by decide +kernel
theorem dM_two_28 : decode cM_two 28 = .ok (.imul, 1) := by decide +kernel
theorem dM_two_29 : decode cM_two 29 = .ok (.iload 4, 2) := by decide +kernel
theorem dM_two_31 : decode cM_two 31 = .ok (.iadd, 1) := by decide +kernel
theorem dM_two_32 : decode cM_two 32 = .ok (.laload, 1) := by decide +kernel
theorem dM_two_33 : decode cM_two 33 = .ok (.aload_n 0, 1) := by decide +kernel
theorem dM_two_34 : decode cM_two 34 = .ok (.getfield 13, 3) := by decide +kernel
theorem dM_two_37 : decode cM_two 37 = .ok (.iconst 4, 1) := by decide +kernel
theorem dM_two_38 : decode cM_two 38 = .ok (.iload_n 2, 1) := by decide +kernel
theorem dM_two_39 : decode cM_two 39 = .ok (.imul, 1) := by decide +kernel
theorem dM_two_40 : decode cM_two 40 = .ok (.iload_n 3, 1) := by decide +kernel
theorem dM_two_41 : decode cM_two 41 = .ok (.iadd, 1) := by decide +kernel
theorem dM_two_42 : decode cM_two 42 = .ok (.laload, 1) := by decide +kernel
theorem dM_two_43 : decode cM_two 43 = .ok (.lmul, 1) := by decide +kernel
theorem dM_two_44 : decode cM_two 44 = .ok (.lsub, 1) := by decide +kernel
theorem dM_two_45 : decode cM_two 45 = .ok (.lreturn, 1) := by decide +kernel
noncomputable def M_two (F : Nat) (τ : MS) (v1 : Int32) (v2 : Int32) (v3 : Int32) (v4 : Int32) : Option (Int64) := gd (vp_in (((4 : Int32) * v1) + v3) 16) (gd (vp_in (((4 : Int32) * v2) + v4) 16) (gd (vp_in (((4 : Int32) * v1) + v4) 16) (gd (vp_in (((4 : Int32) * v2) + v3) 16) (some ((((m_row τ) (((4 : Int32) * v1) + v3).toNatClampNeg) * ((m_row τ) (((4 : Int32) * v2) + v4).toNatClampNeg)) - (((m_row τ) (((4 : Int32) * v1) + v4).toNatClampNeg) * ((m_row τ) (((4 : Int32) * v2) + v3).toNatClampNeg)))))))
set_option maxHeartbeats 4000000 in
set_option maxRecDepth 100000 in
theorem met_M_two (κ : ctx) (X : Nat → va_E) (F : Nat) (τ : MS) (v1 : Int32) (v2 : Int32) (v3 : Int32) (v4 : Int32) {out : Int64} (h : M_two F τ v1 v2 v3 v4 = some out) : Mt yM_two cM_two 5 (some .long) rm_M_two κ [.ref (κ.1 0), .int v1, .int v2, .int v3, .int v4] (LM κ τ X) (some (.long out)) (LM κ τ X) := by
  refine Mt.of (by decide) (Nat.le_of_ble_eq_true rfl) ?_
  intro g G Fh
  unfold M_two at h
  show J g κ 5 0 [(0, .ref (κ.1 0)), (1, .int v1), (2, .int v2), (3, .int v3), (4, .int v4)] [] (LM κ τ X)
  refine w_aload_n (pc := 0) (q := 0) G dM_two_0 rfl rfl ?_
  refine w_get (pc := 1) (v := .ref (κ.1 2)) (fs := mfl κ τ) G 0 (by decide) rfl rfl wsM_ok 5 (by decide) wd495 rfl dM_two_1 ?_
  refine w_iconst (pc := 4) (v := (4 : Int32)) G dM_two_4 (by decide) ?_
  refine w_iload_n (pc := 5) (q := 1) G dM_two_5 rfl rfl ?_
  refine w_imul (pc := 6) G dM_two_6 ?_
  refine w_iload_n (pc := 7) (q := 3) G dM_two_7 rfl rfl ?_
  refine w_iadd (pc := 8) G dM_two_8 ?_
  obtain ⟨i9, h⟩ := gd_some h
  refine w_lald (pc := 9) (n := 16) (f := (m_row τ)) G 2 (by decide) rfl i9 dM_two_9 ?_
  refine w_aload_n (pc := 10) (q := 0) G dM_two_10 rfl rfl ?_
  refine w_get (pc := 11) (v := .ref (κ.1 2)) (fs := mfl κ τ) G 0 (by decide) rfl rfl wsM_ok 5 (by decide) wd495 rfl dM_two_11 ?_
  refine w_iconst (pc := 14) (v := (4 : Int32)) G dM_two_14 (by decide) ?_
  refine w_iload_n (pc := 15) (q := 2) G dM_two_15 rfl rfl ?_
  refine w_imul (pc := 16) G dM_two_16 ?_
  refine w_iload (pc := 17) (q := 4) G dM_two_17 rfl ?_
  refine w_iadd (pc := 19) G dM_two_19 ?_
  obtain ⟨i20, h⟩ := gd_some h
  refine w_lald (pc := 20) (n := 16) (f := (m_row τ)) G 2 (by decide) rfl i20 dM_two_20 ?_
  refine w_lmul (pc := 21) G dM_two_21 ?_
  refine w_aload_n (pc := 22) (q := 0) G dM_two_22 rfl rfl ?_
  refine w_get (pc := 23) (v := .ref (κ.1 2)) (fs := mfl κ τ) G 0 (by decide) rfl rfl wsM_ok 5 (by decide) wd495 rfl dM_two_23 ?_
  refine w_iconst (pc := 26) (v := (4 : Int32)) G dM_two_26 (by decide) ?_
  refine w_iload_n (pc := 27) (q := 1) G dM_two_27 rfl rfl ?_
  refine w_imul (pc := 28) G dM_two_28 ?_
  refine w_iload (pc := 29) (q := 4) G dM_two_29 rfl ?_
  refine w_iadd (pc := 31) G dM_two_31 ?_
  obtain ⟨i32, h⟩ := gd_some h
  refine w_lald (pc := 32) (n := 16) (f := (m_row τ)) G 2 (by decide) rfl i32 dM_two_32 ?_
  refine w_aload_n (pc := 33) (q := 0) G dM_two_33 rfl rfl ?_
  refine w_get (pc := 34) (v := .ref (κ.1 2)) (fs := mfl κ τ) G 0 (by decide) rfl rfl wsM_ok 5 (by decide) wd495 rfl dM_two_34 ?_
  refine w_iconst (pc := 37) (v := (4 : Int32)) G dM_two_37 (by decide) ?_
  refine w_iload_n (pc := 38) (q := 2) G dM_two_38 rfl rfl ?_
  refine w_imul (pc := 39) G dM_two_39 ?_
  refine w_iload_n (pc := 40) (q := 3) G dM_two_40 rfl rfl ?_
  refine w_iadd (pc := 41) G dM_two_41 ?_
  obtain ⟨i42, h⟩ := gd_some h
  refine w_lald (pc := 42) (n := 16) (f := (m_row τ)) G 2 (by decide) rfl i42 dM_two_42 ?_
  refine w_lmul (pc := 43) G dM_two_43 ?_
  refine w_lsub (pc := 44) G dM_two_44 ?_
  obtain rfl := Option.some.inj h
  exact w_lret (pc := 45) G dM_two_45 Fh
def rm_M_three : Room := { frames := 1, cells := 0, slots := 0, locals := 24 }
theorem dM_three_0 : decode cM_three 0 = .ok (.aload_n 0, 1) := by decide +kernel
theorem dM_three_1 : decode cM_three 1 = .ok (.getfield 13, 3) := by decide +kernel
theorem dM_three_4 : decode cM_three 4 = .ok (.iload_n 1, 1) := by decide +kernel
theorem dM_three_5 : decode cM_three 5 = .ok (.laload, 1) := by decide +kernel
theorem dM_three_6 : decode cM_three 6 = .ok (.aload_n 0, 1) := by decide +kernel
theorem dM_three_7 : decode cM_three 7 = .ok (.iconst 1, 1) := by decide +kernel
theorem dM_three_8 : decode cM_three 8 = .ok (.iconst 2, 1) := by decide +kernel
theorem dM_three_9 : decode cM_three 9 = .ok (.iload_n 2, 1) := by decide +kernel
theorem dM_three_10 : decode cM_three 10 = .ok (.iload_n 3, 1) := by decide +kernel
theorem dM_three_11 : decode cM_three 11 = .ok (.invokevirtual 110, 3) := by decide +kernel
theorem dM_three_14 : decode cM_three 14 = .ok (.lmul, 1) := by decide +kernel
theorem dM_three_15 : decode cM_three 15 = .ok (.aload_n 0, 1) := by decide +kernel
theorem dM_three_16 : decode cM_three 16 = .ok (.getfield 13, 3) := by decide +kernel
theorem dM_three_19 : decode cM_three 19 = .ok (.iload_n 2, 1) := by decide +kernel
theorem dM_three_20 : decode cM_three 20 = .ok (.laload, 1) := by decide +kernel
theorem dM_three_21 : decode cM_three 21 = .ok (.aload_n 0, 1) := by decide +kernel
theorem dM_three_22 : decode cM_three 22 = .ok (.iconst 1, 1) := by decide +kernel
theorem dM_three_23 : decode cM_three 23 = .ok (.iconst 2, 1) := by decide +kernel
theorem dM_three_24 : decode cM_three 24 = .ok (.iload_n 1, 1) := by decide +kernel
theorem dM_three_25 : decode cM_three 25 = .ok (.iload_n 3, 1) := by decide +kernel
theorem dM_three_26 : decode cM_three 26 = .ok (.invokevirtual 110, 3) := by decide +kernel
theorem dM_three_29 : decode cM_three 29 = .ok (.lmul, 1) := by decide +kernel
theorem dM_three_30 : decode cM_three 30 = .ok (.lsub, 1) := by decide +kernel
theorem dM_three_31 : decode cM_three 31 = .ok (.aload_n 0, 1) := by decide +kernel
theorem dM_three_32 : decode cM_three 32 = .ok (.getfield 13, 3) := by decide +kernel
theorem dM_three_35 : decode cM_three 35 = .ok (.iload_n 3, 1) := by decide +kernel
theorem dM_three_36 : decode cM_three 36 = .ok (.laload, 1) := by decide +kernel
theorem dM_three_37 : decode cM_three 37 = .ok (.aload_n 0, 1) := by decide +kernel
theorem dM_three_38 : decode cM_three 38 = .ok (.iconst 1, 1) := by decide +kernel
theorem dM_three_39 : decode cM_three 39 = .ok (.iconst 2, 1) := by decide +kernel
theorem dM_three_40 : decode cM_three 40 = .ok (.iload_n 1, 1) := by decide +kernel
theorem dM_three_41 : decode cM_three 41 = .ok (.iload_n 2, 1) := by decide +kernel
theorem dM_three_42 : decode cM_three 42 = .ok (.invokevirtual 110, 3) := by decide +kernel
theorem dM_three_45 : decode cM_three 45 = .ok (.lmul, 1) := by decide +kernel
theorem dM_three_46 : decode cM_three 46 = .ok (.ladd, 1) := by decide +kernel
theorem dM_three_47 : decode cM_three 47 = .ok (.lreturn, 1) := by decide +kernel
theorem cb_M_two_M_three : CB yM_two cM_two 5 (some .long) rm_M_two rm_M_three 4 := ⟨wd633, wd8, by decide +kernel, rfl, rfl, by decide⟩
noncomputable def M_three (F : Nat) (τ : MS) (v1 : Int32) (v2 : Int32) (v3 : Int32) : Option (Int64) := gd (vp_in v1 16) ((M_two F τ (1 : Int32) (2 : Int32) v2 v3).bind (fun r11 => gd (vp_in v2 16) ((M_two F τ (1 : Int32) (2 : Int32) v1 v3).bind (fun r26 => gd (vp_in v3 16) ((M_two F τ (1 : Int32) (2 : Int32) v1 v2).bind (fun r42 => some (((((m_row τ) v1.toNatClampNeg) * r11) - (((m_row τ) v2.toNatClampNeg) * r26)) + (((m_row τ) v3.toNatClampNeg) * r42))))))))
set_option maxHeartbeats 4000000 in
set_option maxRecDepth 100000 in
theorem met_M_three (κ : ctx) (X : Nat → va_E) (F : Nat) (τ : MS) (v1 : Int32) (v2 : Int32) (v3 : Int32) {out : Int64} (h : M_three F τ v1 v2 v3 = some out) : Mt yM_three cM_three 4 (some .long) rm_M_three κ [.ref (κ.1 0), .int v1, .int v2, .int v3] (LM κ τ X) (some (.long out)) (LM κ τ X) := by
  refine Mt.of (by decide) (Nat.le_of_ble_eq_true rfl) ?_
  intro g G Fh
  unfold M_three at h
  show J g κ 4 0 [(0, .ref (κ.1 0)), (1, .int v1), (2, .int v2), (3, .int v3)] [] (LM κ τ X)
  refine w_aload_n (pc := 0) (q := 0) G dM_three_0 rfl rfl ?_
  refine w_get (pc := 1) (v := .ref (κ.1 2)) (fs := mfl κ τ) G 0 (by decide) rfl rfl wsM_ok 5 (by decide) wd495 rfl dM_three_1 ?_
  refine w_iload_n (pc := 4) (q := 1) G dM_three_4 rfl rfl ?_
  obtain ⟨i5, h⟩ := gd_some h
  refine w_lald (pc := 5) (n := 16) (f := (m_row τ)) G 2 (by decide) rfl i5 dM_three_5 ?_
  refine w_aload_n (pc := 6) (q := 0) G dM_three_6 rfl rfl ?_
  refine w_iconst (pc := 7) (v := (1 : Int32)) G dM_three_7 (by decide) ?_
  refine w_iconst (pc := 8) (v := (2 : Int32)) G dM_three_8 (by decide) ?_
  refine w_iload_n (pc := 9) (q := 2) G dM_three_9 rfl rfl ?_
  refine w_iload_n (pc := 10) (q := 3) G dM_three_10 rfl rfl ?_
  obtain ⟨r11, e11, h⟩ := bd h
  refine w_callV (pc := 11) (av := [.int (1 : Int32), .int (2 : Int32), .int v2, .int v3]) (rest := [.long ((m_row τ) v1.toNatClampNeg)]) (v := some (.long r11)) (L' := (LM κ τ X)) (T := TM) (fs := mfl κ τ) G 0 0 27 (by decide) rfl rfl cb_M_two_M_three wd632 ws27 wd630 (met_M_two κ X F τ (1 : Int32) (2 : Int32) v2 v3 e11) rfl rfl rfl (Nat.le_of_ble_eq_true rfl) dM_three_11 ?_
  refine w_lmul (pc := 14) G dM_three_14 ?_
  refine w_aload_n (pc := 15) (q := 0) G dM_three_15 rfl rfl ?_
  refine w_get (pc := 16) (v := .ref (κ.1 2)) (fs := mfl κ τ) G 0 (by decide) rfl rfl wsM_ok 5 (by decide) wd495 rfl dM_three_16 ?_
  refine w_iload_n (pc := 19) (q := 2) G dM_three_19 rfl rfl ?_
  obtain ⟨i20, h⟩ := gd_some h
  refine w_lald (pc := 20) (n := 16) (f := (m_row τ)) G 2 (by decide) rfl i20 dM_three_20 ?_
  refine w_aload_n (pc := 21) (q := 0) G dM_three_21 rfl rfl ?_
  refine w_iconst (pc := 22) (v := (1 : Int32)) G dM_three_22 (by decide) ?_
  refine w_iconst (pc := 23) (v := (2 : Int32)) G dM_three_23 (by decide) ?_
  refine w_iload_n (pc := 24) (q := 1) G dM_three_24 rfl rfl ?_
  refine w_iload_n (pc := 25) (q := 3) G dM_three_25 rfl rfl ?_
  obtain ⟨r26, e26, h⟩ := bd h
  refine w_callV (pc := 26) (av := [.int (1 : Int32), .int (2 : Int32), .int v1, .int v3]) (rest := [.long ((m_row τ) v2.toNatClampNeg), .long (((m_row τ) v1.toNatClampNeg) * r11)]) (v := some (.long r26)) (L' := (LM κ τ X)) (T := TM) (fs := mfl κ τ) G 0 0 27 (by decide) rfl rfl cb_M_two_M_three wd632 ws27 wd630 (met_M_two κ X F τ (1 : Int32) (2 : Int32) v1 v3 e26) rfl rfl rfl (Nat.le_of_ble_eq_true rfl) dM_three_26 ?_
  refine w_lmul (pc := 29) G dM_three_29 ?_
  refine w_lsub (pc := 30) G dM_three_30 ?_
  refine w_aload_n (pc := 31) (q := 0) G dM_three_31 rfl rfl ?_
  refine w_get (pc := 32) (v := .ref (κ.1 2)) (fs := mfl κ τ) G 0 (by decide) rfl rfl wsM_ok 5 (by decide) wd495 rfl dM_three_32 ?_
  refine w_iload_n (pc := 35) (q := 3) G dM_three_35 rfl rfl ?_
  obtain ⟨i36, h⟩ := gd_some h
  refine w_lald (pc := 36) (n := 16) (f := (m_row τ)) G 2 (by decide) rfl i36 dM_three_36 ?_
  refine w_aload_n (pc := 37) (q := 0) G dM_three_37 rfl rfl ?_
  refine w_iconst (pc := 38) (v := (1 : Int32)) G dM_three_38 (by decide) ?_
  refine w_iconst (pc := 39) (v := (2 : Int32)) G dM_three_39 (by decide) ?_
  refine w_iload_n (pc := 40) (q := 1) G dM_three_40 rfl rfl ?_
  refine w_iload_n (pc := 41) (q := 2) G dM_three_41 rfl rfl ?_
  obtain ⟨r42, e42, h⟩ := bd h
  refine w_callV (pc := 42) (av := [.int (1 : Int32), .int (2 : Int32), .int v1, .int v2]) (rest := [.long ((m_row τ) v3.toNatClampNeg), .long ((((m_row τ) v1.toNatClampNeg) * r11) - (((m_row τ) v2.toNatClampNeg) * r26))]) (v := some (.long r42)) (L' := (LM κ τ X)) (T := TM) (fs := mfl κ τ) G 0 0 27 (by decide) rfl rfl cb_M_two_M_three wd632 ws27 wd630 (met_M_two κ X F τ (1 : Int32) (2 : Int32) v1 v2 e42) rfl rfl rfl (Nat.le_of_ble_eq_true rfl) dM_three_42 ?_
  refine w_lmul (pc := 45) G dM_three_45 ?_
  refine w_ladd (pc := 46) G dM_three_46 ?_
  obtain rfl := Option.some.inj h
  exact w_lret (pc := 47) G dM_three_47 Fh
def rm_M_volume : Room := { frames := 5, cells := 0, slots := 0, locals := 121 }
theorem dM_volume_0 : decode cM_volume 0 = .ok (.aload_n 0, 1) := by decide +kernel
theorem dM_volume_1 : decode cM_volume 1 = .ok (.iconst (-1), 1) := by decide +kernel
theorem dM_volume_2 : decode cM_volume 2 = .ok (.invokevirtual 107, 3) := by decide +kernel
theorem dM_volume_5 : decode cM_volume 5 = .ok (.aload_n 0, 1) := by decide +kernel
theorem dM_volume_6 : decode cM_volume 6 = .ok (.getfield 74, 3) := by decide +kernel
theorem dM_volume_9 : decode cM_volume 9 = .ok (.ifCond .ne 7, 3) := by decide +kernel
theorem dM_volume_12 : decode cM_volume 12 = .ok (.lconst 1, 1) := by decide +kernel
theorem dM_volume_13 : decode cM_volume 13 = .ok (.goto 4, 3) := by decide +kernel
theorem dM_volume_16 : decode cM_volume 16 = .ok (.lconst 0, 1) := by decide +kernel
theorem dM_volume_17 : decode cM_volume 17 = .ok (.lstore_n 1, 1) := by decide +kernel
theorem dM_volume_18 : decode cM_volume 18 = .ok (.aload_n 0, 1) := by decide +kernel
theorem dM_volume_19 : decode cM_volume 19 = .ok (.getfield 74, 3) := by decide +kernel
theorem dM_volume_22 : decode cM_volume 22 = .ok (.iconst 4, 1) := by decide +kernel
theorem dM_volume_23 : decode cM_volume 23 = .ok (.if_icmp .ne 37, 3) := by decide +kernel
theorem dM_volume_26 : decode cM_volume 26 = .ok (.aload_n 0, 1) := by decide +kernel
theorem dM_volume_27 : decode cM_volume 27 = .ok (.getfield 13, 3) := by decide +kernel
theorem dM_volume_30 : decode cM_volume 30 = .ok (.iconst 0, 1) := by decide +kernel
theorem dM_volume_31 : decode cM_volume 31 = .ok (.laload, 1) := by decide +kernel
theorem dM_volume_32 : decode cM_volume 32 = .ok (.aload_n 0, 1) := by decide +kernel
theorem dM_volume_33 : decode cM_volume 33 = .ok (.getfield 13, 3) := by decide +kernel
theorem dM_volume_36 : decode cM_volume 36 = .ok (.iconst 5, 1) := by decide +kernel
theorem dM_volume_37 : decode cM_volume 37 = .ok (.laload, 1) := by decide +kernel
theorem dM_volume_38 : decode cM_volume 38 = .ok (.lmul, 1) := by decide +kernel
theorem dM_volume_39 : decode cM_volume 39 = .ok (.aload_n 0, 1) := by decide +kernel
theorem dM_volume_40 : decode cM_volume 40 = .ok (.getfield 13, 3) := by decide +kernel
theorem dM_volume_43 : decode cM_volume 43 = .ok (.bipush 10, 2) := by decide +kernel
theorem dM_volume_45 : decode cM_volume 45 = .ok (.laload, 1) := by decide +kernel
theorem dM_volume_46 : decode cM_volume 46 = .ok (.lmul, 1) := by decide +kernel
theorem dM_volume_47 : decode cM_volume 47 = .ok (.aload_n 0, 1) := by decide +kernel
theorem dM_volume_48 : decode cM_volume 48 = .ok (.getfield 13, 3) := by decide +kernel
theorem dM_volume_51 : decode cM_volume 51 = .ok (.bipush 15, 2) := by decide +kernel
theorem dM_volume_53 : decode cM_volume 53 = .ok (.laload, 1) := by decide +kernel
theorem dM_volume_54 : decode cM_volume 54 = .ok (.lmul, 1) := by decide +kernel
theorem dM_volume_55 : decode cM_volume 55 = .ok (.lstore_n 3, 1) := by decide +kernel
theorem dM_volume_56 : decode cM_volume 56 = .ok (.lload_n 3, 1) := by decide +kernel
theorem dM_volume_57 : decode cM_volume 57 = .ok (.lload_n 3, 1) := by decide +kernel
theorem dM_volume_58 : decode cM_volume 58 = .ok (.lmul, 1) := by decide +kernel
theorem dM_volume_59 : decode cM_volume 59 = .ok (.lreturn, 1) := by decide +kernel
theorem dM_volume_60 : decode cM_volume 60 = .ok (.iconst 0, 1) := by decide +kernel
theorem dM_volume_61 : decode cM_volume 61 = .ok (.istore_n 3, 1) := by decide +kernel
theorem dM_volume_62 : decode cM_volume 62 = .ok (.iload_n 3, 1) := by decide +kernel
theorem dM_volume_63 : decode cM_volume 63 = .ok (.iconst 4, 1) := by decide +kernel
theorem dM_volume_64 : decode cM_volume 64 = .ok (.if_icmp .ge 140, 3) := by decide +kernel
theorem dM_volume_67 : decode cM_volume 67 = .ok (.lload_n 1, 1) := by decide +kernel
theorem dM_volume_68 : decode cM_volume 68 = .ok (.aload_n 0, 1) := by decide +kernel
theorem dM_volume_69 : decode cM_volume 69 = .ok (.getfield 74, 3) := by decide +kernel
theorem dM_volume_72 : decode cM_volume 72 = .ok (.iconst 1, 1) := by decide +kernel
theorem dM_volume_73 : decode cM_volume 73 = .ok (.if_icmp .ne 19, 3) := by decide +kernel
theorem dM_volume_76 : decode cM_volume 76 = .ok (.aload_n 0, 1) := by decide +kernel
theorem dM_volume_77 : decode cM_volume 77 = .ok (.getfield 13, 3) := by decide +kernel
theorem dM_volume_80 : decode cM_volume 80 = .ok (.iload_n 3, 1) := by decide +kernel
theorem dM_volume_81 : decode cM_volume 81 = .ok (.laload, 1) := by decide +kernel
theorem dM_volume_82 : decode cM_volume 82 = .ok (.aload_n 0, 1) := by decide +kernel
theorem dM_volume_83 : decode cM_volume 83 = .ok (.getfield 13, 3) := by decide +kernel
theorem dM_volume_86 : decode cM_volume 86 = .ok (.iload_n 3, 1) := by decide +kernel
theorem dM_volume_87 : decode cM_volume 87 = .ok (.laload, 1) := by decide +kernel
theorem dM_volume_88 : decode cM_volume 88 = .ok (.lmul, 1) := by decide +kernel
theorem dM_volume_89 : decode cM_volume 89 = .ok (.goto 4, 3) := by decide +kernel
theorem dM_volume_92 : decode cM_volume 92 = .ok (.lconst 0, 1) := by decide +kernel
theorem dM_volume_93 : decode cM_volume 93 = .ok (.ladd, 1) := by decide +kernel
theorem dM_volume_94 : decode cM_volume 94 = .ok (.lstore_n 1, 1) := by decide +kernel
theorem dM_volume_95 : decode cM_volume 95 = .ok (.iload_n 3, 1) := by decide +kernel
theorem dM_volume_96 : decode cM_volume 96 = .ok (.iconst 1, 1) := by decide +kernel
theorem dM_volume_97 : decode cM_volume 97 = .ok (.iadd, 1) := by decide +kernel
theorem dM_volume_98 : decode cM_volume 98 = .ok (.istore 4, 2) := by decide +kernel
theorem dM_volume_100 : decode cM_volume 100 = .ok (.iload 4, 2) := by decide +kernel
theorem dM_volume_102 : decode cM_volume 102 = .ok (.iconst 4, 1) := by decide +kernel
theorem dM_volume_103 : decode cM_volume 103 = .ok (.if_icmp .ge 95, 3) := by decide +kernel
theorem dM_volume_106 : decode cM_volume 106 = .ok (.lload_n 1, 1) := by decide +kernel
theorem dM_volume_107 : decode cM_volume 107 = .ok (.aload_n 0, 1) := by decide +kernel
theorem dM_volume_108 : decode cM_volume 108 = .ok (.getfield 74, 3) := by decide +kernel
theorem dM_volume_111 : decode cM_volume 111 = .ok (.iconst 2, 1) := by decide +kernel
theorem dM_volume_112 : decode cM_volume 112 = .ok (.if_icmp .ne 25, 3) := by decide +kernel
theorem dM_volume_115 : decode cM_volume 115 = .ok (.aload_n 0, 1) := by decide +kernel
theorem dM_volume_116 : decode cM_volume 116 = .ok (.iconst 0, 1) := by decide +kernel
theorem dM_volume_117 : decode cM_volume 117 = .ok (.iconst 1, 1) := by decide +kernel
theorem dM_volume_118 : decode cM_volume 118 = .ok (.iload_n 3, 1) := by decide +kernel
theorem dM_volume_119 : decode cM_volume 119 = .ok (.iload 4, 2) := by decide +kernel
theorem dM_volume_121 : decode cM_volume 121 = .ok (.invokevirtual 110, 3) := by decide +kernel
theorem dM_volume_124 : decode cM_volume 124 = .ok (.aload_n 0, 1) := by decide +kernel
theorem dM_volume_125 : decode cM_volume 125 = .ok (.iconst 0, 1) := by decide +kernel
theorem dM_volume_126 : decode cM_volume 126 = .ok (.iconst 1, 1) := by decide +kernel
theorem dM_volume_127 : decode cM_volume 127 = .ok (.iload_n 3, 1) := by decide +kernel
theorem dM_volume_128 : decode cM_volume 128 = .ok (.iload 4, 2) := by decide +kernel
theorem dM_volume_130 : decode cM_volume 130 = .ok (.invokevirtual 110, 3) := by decide +kernel
theorem dM_volume_133 : decode cM_volume 133 = .ok (.lmul, 1) := by decide +kernel
theorem dM_volume_134 : decode cM_volume 134 = .ok (.goto 4, 3) := by decide +kernel
theorem dM_volume_137 : decode cM_volume 137 = .ok (.lconst 0, 1) := by decide +kernel
theorem dM_volume_138 : decode cM_volume 138 = .ok (.ladd, 1) := by decide +kernel
theorem dM_volume_139 : decode cM_volume 139 = .ok (.lstore_n 1, 1) := by decide +kernel
theorem dM_volume_140 : decode cM_volume 140 = .ok (.iload 4, 2) := by decide +kernel
theorem dM_volume_142 : decode cM_volume 142 = .ok (.iconst 1, 1) := by decide +kernel
theorem dM_volume_143 : decode cM_volume 143 = .ok (.iadd, 1) := by decide +kernel
theorem dM_volume_144 : decode cM_volume 144 = .ok (.istore 5, 2) := by decide +kernel
theorem dM_volume_146 : decode cM_volume 146 = .ok (.iload 5, 2) := by decide +kernel
theorem dM_volume_148 : decode cM_volume 148 = .ok (.iconst 4, 1) := by decide +kernel
theorem dM_volume_149 : decode cM_volume 149 = .ok (.if_icmp .ge 43, 3) := by decide +kernel
theorem dM_volume_152 : decode cM_volume 152 = .ok (.lload_n 1, 1) := by decide +kernel
theorem dM_volume_153 : decode cM_volume 153 = .ok (.aload_n 0, 1) := by decide +kernel
theorem dM_volume_154 : decode cM_volume 154 = .ok (.getfield 74, 3) := by decide +kernel
theorem dM_volume_157 : decode cM_volume 157 = .ok (.iconst 3, 1) := by decide +kernel
theorem dM_volume_158 : decode cM_volume 158 = .ok (.if_icmp .ne 25, 3) := by decide +kernel
theorem dM_volume_161 : decode cM_volume 161 = .ok (.aload_n 0, 1) := by decide +kernel
theorem dM_volume_162 : decode cM_volume 162 = .ok (.iload_n 3, 1) := by decide +kernel
theorem dM_volume_163 : decode cM_volume 163 = .ok (.iload 4, 2) := by decide +kernel
theorem dM_volume_165 : decode cM_volume 165 = .ok (.iload 5, 2) := by decide +kernel
theorem dM_volume_167 : decode cM_volume 167 = .ok (.invokevirtual 114, 3) := by decide +kernel
theorem dM_volume_170 : decode cM_volume 170 = .ok (.aload_n 0, 1) := by decide +kernel
theorem dM_volume_171 : decode cM_volume 171 = .ok (.iload_n 3, 1) := by decide +kernel
theorem dM_volume_172 : decode cM_volume 172 = .ok (.iload 4, 2) := by decide +kernel
theorem dM_volume_174 : decode cM_volume 174 = .ok (.iload 5, 2) := by decide +kernel
theorem dM_volume_176 : decode cM_volume 176 = .ok (.invokevirtual 114, 3) := by decide +kernel
theorem dM_volume_179 : decode cM_volume 179 = .ok (.lmul, 1) := by decide +kernel
theorem dM_volume_180 : decode cM_volume 180 = .ok (.goto 4, 3) := by decide +kernel
theorem dM_volume_183 : decode cM_volume 183 = .ok (.lconst 0, 1) := by decide +kernel
theorem dM_volume_184 : decode cM_volume 184 = .ok (.ladd, 1) := by decide +kernel
theorem dM_volume_185 : decode cM_volume 185 = .ok (.lstore_n 1, 1) := by decide +kernel
theorem dM_volume_186 : decode cM_volume 186 = .ok (.iinc 5 1, 3) := by decide +kernel
theorem dM_volume_189 : decode cM_volume 189 = .ok (.goto (-43), 3) := by decide +kernel
theorem dM_volume_192 : decode cM_volume 192 = .ok (.iinc 4 1, 3) := by decide +kernel
theorem dM_volume_195 : decode cM_volume 195 = .ok (.goto (-95), 3) := by decide +kernel
theorem dM_volume_198 : decode cM_volume 198 = .ok (.iinc 3 1, 3) := by decide +kernel
theorem dM_volume_201 : decode cM_volume 201 = .ok (.goto (-139), 3) := by decide +kernel
theorem dM_volume_204 : decode cM_volume 204 = .ok (.lload_n 1, 1) := by decide +kernel
theorem dM_volume_205 : decode cM_volume 205 = .ok (.lreturn, 1) := by decide +kernel
theorem cb_M_look_M_volume : CB yM_look cM_look 4 none rm_M_look rm_M_volume 1 := ⟨wd598, wd8, by decide +kernel, rfl, rfl, by decide⟩
theorem cb_M_three_M_volume : CB yM_three cM_three 4 (some .long) rm_M_three rm_M_volume 3 := ⟨wd637, wd8, by decide +kernel, rfl, rfl, by decide⟩
theorem cb_M_two_M_volume : CB yM_two cM_two 5 (some .long) rm_M_two rm_M_volume 4 := ⟨wd633, wd8, by decide +kernel, rfl, rfl, by decide⟩
noncomputable def lM_volume_146 (F : Nat) (τ : MS) (v3 : Int32) (v4 : Int32) : Nat → Int64 → Int32 → Option (Int64)
  | 0, _, _ => none
  | n + 1, v1, v5 => if (4 : Int32) ≤ v5 then some (v1) else if (m_rows τ) = (3 : Int32) then (M_three F τ v3 v4 v5).bind (fun r167 => (M_three F τ v3 v4 v5).bind (fun r176 => lM_volume_146 F τ v3 v4 n (v1 + (r167 * r176)) (v5 + 1))) else lM_volume_146 F τ v3 v4 n (v1 + (0 : Int64)) (v5 + 1)
set_option maxHeartbeats 4000000 in
set_option maxRecDepth 100000 in
theorem lM_volume_146_ok {g : Gm} {κ : ctx} (G : OK g κ RM cM_volume 6 (some .long) rm_M_volume) (X : Nat → va_E) (F : Nat) (τ : MS) (v3 : Int32) (v4 : Int32) : ∀ (n : Nat) (v1 : Int64) (v5 : Int32) (out : Int64), lM_volume_146 F τ v3 v4 n v1 v5 = some out → (J g κ 6 192 [(0, .ref (κ.1 0)), (1, .long out), (3, .int v3), (4, .int v4)] [] (LM κ τ X)) → J g κ 6 146 [(0, .ref (κ.1 0)), (1, .long v1), (3, .int v3), (4, .int v4), (5, .int v5)] [] (LM κ τ X) := by
  intro n
  induction n with
  | zero =>
    intro v1 v5
    intro out h
    rw [lM_volume_146] at h
    cases h
  | succ n ih =>
    intro v1 v5 out h K
    rw [lM_volume_146] at h
    refine w_iload (pc := 146) (q := 4) G dM_volume_146 rfl ?_
    refine w_iconst (pc := 148) (v := (4 : Int32)) G dM_volume_148 (by decide) ?_
    refine w_icmp_ge (pc := 149) (tgt := 192) G dM_volume_149 (by decide) (fun c149 => ?_) (fun c149 => ?_)
    · have h := if_t c149 h
      obtain rfl := Option.some.inj h
      refine w_sub (lv' := [(0, .ref (κ.1 0)), (1, .long v1), (3, .int v3), (4, .int v4)]) [0, 1, 2, 3] rfl ?_
      exact K
    · have h := if_f c149 h
      refine w_lload_n (pc := 152) (q := 1) G dM_volume_152 rfl rfl ?_
      refine w_aload_n (pc := 153) (q := 0) G dM_volume_153 rfl rfl ?_
      refine w_get (pc := 154) (v := .int (m_rows τ)) (fs := mfl κ τ) G 0 (by decide) rfl rfl wsM_ok 4 (by decide) wd494 rfl dM_volume_154 ?_
      refine w_iconst (pc := 157) (v := (3 : Int32)) G dM_volume_157 (by decide) ?_
      refine w_icmp_ne (pc := 158) (tgt := 183) G dM_volume_158 (by decide) (fun c158 => ?_) (fun c158 => ?_)
      · have h := if_t c158 h
        refine w_aload_n (pc := 161) (q := 0) G dM_volume_161 rfl rfl ?_
        refine w_iload_n (pc := 162) (q := 2) G dM_volume_162 rfl rfl ?_
        refine w_iload (pc := 163) (q := 3) G dM_volume_163 rfl ?_
        refine w_iload (pc := 165) (q := 4) G dM_volume_165 rfl ?_
        obtain ⟨r167, e167, h⟩ := bd h
        refine w_callV (pc := 167) (av := [.int v3, .int v4, .int v5]) (rest := [.long v1]) (v := some (.long r167)) (L' := (LM κ τ X)) (T := TM) (fs := mfl κ τ) G 0 0 27 (by decide) rfl rfl cb_M_three_M_volume wd636 ws28 wd634 (met_M_three κ X F τ v3 v4 v5 e167) rfl rfl rfl (Nat.le_of_ble_eq_true rfl) dM_volume_167 ?_
        refine w_aload_n (pc := 170) (q := 0) G dM_volume_170 rfl rfl ?_
        refine w_iload_n (pc := 171) (q := 2) G dM_volume_171 rfl rfl ?_
        refine w_iload (pc := 172) (q := 3) G dM_volume_172 rfl ?_
        refine w_iload (pc := 174) (q := 4) G dM_volume_174 rfl ?_
        obtain ⟨r176, e176, h⟩ := bd h
        refine w_callV (pc := 176) (av := [.int v3, .int v4, .int v5]) (rest := [.long r167, .long v1]) (v := some (.long r176)) (L' := (LM κ τ X)) (T := TM) (fs := mfl κ τ) G 0 0 27 (by decide) rfl rfl cb_M_three_M_volume wd636 ws28 wd634 (met_M_three κ X F τ v3 v4 v5 e176) rfl rfl rfl (Nat.le_of_ble_eq_true rfl) dM_volume_176 ?_
        refine w_lmul (pc := 179) G dM_volume_179 ?_
        refine w_goto (pc := 180) (tgt := 184) G dM_volume_180 (by decide) ?_
        refine w_ladd (pc := 184) G dM_volume_184 ?_
        refine w_lstore_n (pc := 185) (lv' := [(1, .long (v1 + (r167 * r176))), (0, .ref (κ.1 0)), (3, .int v3), (4, .int v4), (5, .int v5)]) G dM_volume_185 rfl (by decide) rfl ?_
        refine w_iinc (pc := 186) (q0 := 4) (v := (v5 + 1)) (lv' := [(5, .int (v5 + 1)), (1, .long (v1 + (r167 * r176))), (0, .ref (κ.1 0)), (3, .int v3), (4, .int v4)]) G dM_volume_186 rfl rfl (by decide) rfl ?_
        refine w_goto (pc := 189) (tgt := 146) G dM_volume_189 (by decide) ?_
        refine w_sub (lv' := [(0, .ref (κ.1 0)), (1, .long (v1 + (r167 * r176))), (3, .int v3), (4, .int v4), (5, .int (v5 + 1))]) [2, 1, 3, 4, 0] rfl ?_
        exact ih (v1 + (r167 * r176)) (v5 + 1) out h K
      · have h := if_f c158 h
        refine w_lconst (pc := 183) (v := (0 : Int64)) G dM_volume_183 (by decide) ?_
        refine w_ladd (pc := 184) G dM_volume_184 ?_
        refine w_lstore_n (pc := 185) (lv' := [(1, .long (v1 + (0 : Int64))), (0, .ref (κ.1 0)), (3, .int v3), (4, .int v4), (5, .int v5)]) G dM_volume_185 rfl (by decide) rfl ?_
        refine w_iinc (pc := 186) (q0 := 4) (v := (v5 + 1)) (lv' := [(5, .int (v5 + 1)), (1, .long (v1 + (0 : Int64))), (0, .ref (κ.1 0)), (3, .int v3), (4, .int v4)]) G dM_volume_186 rfl rfl (by decide) rfl ?_
        refine w_goto (pc := 189) (tgt := 146) G dM_volume_189 (by decide) ?_
        refine w_sub (lv' := [(0, .ref (κ.1 0)), (1, .long (v1 + (0 : Int64))), (3, .int v3), (4, .int v4), (5, .int (v5 + 1))]) [2, 1, 3, 4, 0] rfl ?_
        exact ih (v1 + (0 : Int64)) (v5 + 1) out h K
noncomputable def lM_volume_100 (F : Nat) (τ : MS) (v3 : Int32) : Nat → Int64 → Int32 → Option (Int64)
  | 0, _, _ => none
  | n + 1, v1, v4 => if (4 : Int32) ≤ v4 then some (v1) else if (m_rows τ) = (2 : Int32) then (M_two F τ (0 : Int32) (1 : Int32) v3 v4).bind (fun r121 => (M_two F τ (0 : Int32) (1 : Int32) v3 v4).bind (fun r130 => (lM_volume_146 F τ v3 v4 F (v1 + (r121 * r130)) (v4 + (1 : Int32))).bind (fun o146_17 => lM_volume_100 F τ v3 n o146_17 (v4 + 1)))) else (lM_volume_146 F τ v3 v4 F (v1 + (0 : Int64)) (v4 + (1 : Int32))).bind (fun o146_18 => lM_volume_100 F τ v3 n o146_18 (v4 + 1))
set_option maxHeartbeats 4000000 in
set_option maxRecDepth 100000 in
theorem lM_volume_100_ok {g : Gm} {κ : ctx} (G : OK g κ RM cM_volume 6 (some .long) rm_M_volume) (X : Nat → va_E) (F : Nat) (τ : MS) (v3 : Int32) : ∀ (n : Nat) (v1 : Int64) (v4 : Int32) (out : Int64), lM_volume_100 F τ v3 n v1 v4 = some out → (J g κ 6 198 [(0, .ref (κ.1 0)), (1, .long out), (3, .int v3)] [] (LM κ τ X)) → J g κ 6 100 [(0, .ref (κ.1 0)), (1, .long v1), (3, .int v3), (4, .int v4)] [] (LM κ τ X) := by
  intro n
  induction n with
  | zero =>
    intro v1 v4
    intro out h
    rw [lM_volume_100] at h
    cases h
  | succ n ih =>
    intro v1 v4 out h K
    rw [lM_volume_100] at h
    refine w_iload (pc := 100) (q := 3) G dM_volume_100 rfl ?_
    refine w_iconst (pc := 102) (v := (4 : Int32)) G dM_volume_102 (by decide) ?_
    refine w_icmp_ge (pc := 103) (tgt := 198) G dM_volume_103 (by decide) (fun c103 => ?_) (fun c103 => ?_)
    · have h := if_t c103 h
      obtain rfl := Option.some.inj h
      refine w_sub (lv' := [(0, .ref (κ.1 0)), (1, .long v1), (3, .int v3)]) [0, 1, 2] rfl ?_
      exact K
    · have h := if_f c103 h
      refine w_lload_n (pc := 106) (q := 1) G dM_volume_106 rfl rfl ?_
      refine w_aload_n (pc := 107) (q := 0) G dM_volume_107 rfl rfl ?_
      refine w_get (pc := 108) (v := .int (m_rows τ)) (fs := mfl κ τ) G 0 (by decide) rfl rfl wsM_ok 4 (by decide) wd494 rfl dM_volume_108 ?_
      refine w_iconst (pc := 111) (v := (2 : Int32)) G dM_volume_111 (by decide) ?_
      refine w_icmp_ne (pc := 112) (tgt := 137) G dM_volume_112 (by decide) (fun c112 => ?_) (fun c112 => ?_)
      · have h := if_t c112 h
        refine w_aload_n (pc := 115) (q := 0) G dM_volume_115 rfl rfl ?_
        refine w_iconst (pc := 116) (v := (0 : Int32)) G dM_volume_116 (by decide) ?_
        refine w_iconst (pc := 117) (v := (1 : Int32)) G dM_volume_117 (by decide) ?_
        refine w_iload_n (pc := 118) (q := 2) G dM_volume_118 rfl rfl ?_
        refine w_iload (pc := 119) (q := 3) G dM_volume_119 rfl ?_
        obtain ⟨r121, e121, h⟩ := bd h
        refine w_callV (pc := 121) (av := [.int (0 : Int32), .int (1 : Int32), .int v3, .int v4]) (rest := [.long v1]) (v := some (.long r121)) (L' := (LM κ τ X)) (T := TM) (fs := mfl κ τ) G 0 0 27 (by decide) rfl rfl cb_M_two_M_volume wd632 ws27 wd630 (met_M_two κ X F τ (0 : Int32) (1 : Int32) v3 v4 e121) rfl rfl rfl (Nat.le_of_ble_eq_true rfl) dM_volume_121 ?_
        refine w_aload_n (pc := 124) (q := 0) G dM_volume_124 rfl rfl ?_
        refine w_iconst (pc := 125) (v := (0 : Int32)) G dM_volume_125 (by decide) ?_
        refine w_iconst (pc := 126) (v := (1 : Int32)) G dM_volume_126 (by decide) ?_
        refine w_iload_n (pc := 127) (q := 2) G dM_volume_127 rfl rfl ?_
        refine w_iload (pc := 128) (q := 3) G dM_volume_128 rfl ?_
        obtain ⟨r130, e130, h⟩ := bd h
        refine w_callV (pc := 130) (av := [.int (0 : Int32), .int (1 : Int32), .int v3, .int v4]) (rest := [.long r121, .long v1]) (v := some (.long r130)) (L' := (LM κ τ X)) (T := TM) (fs := mfl κ τ) G 0 0 27 (by decide) rfl rfl cb_M_two_M_volume wd632 ws27 wd630 (met_M_two κ X F τ (0 : Int32) (1 : Int32) v3 v4 e130) rfl rfl rfl (Nat.le_of_ble_eq_true rfl) dM_volume_130 ?_
        refine w_lmul (pc := 133) G dM_volume_133 ?_
        refine w_goto (pc := 134) (tgt := 138) G dM_volume_134 (by decide) ?_
        refine w_ladd (pc := 138) G dM_volume_138 ?_
        refine w_lstore_n (pc := 139) (lv' := [(1, .long (v1 + (r121 * r130))), (0, .ref (κ.1 0)), (3, .int v3), (4, .int v4)]) G dM_volume_139 rfl (by decide) rfl ?_
        refine w_iload (pc := 140) (q := 3) G dM_volume_140 rfl ?_
        refine w_iconst (pc := 142) (v := (1 : Int32)) G dM_volume_142 (by decide) ?_
        refine w_iadd (pc := 143) G dM_volume_143 ?_
        refine w_istore (pc := 144) (lv' := [(5, .int (v4 + (1 : Int32))), (1, .long (v1 + (r121 * r130))), (0, .ref (κ.1 0)), (3, .int v3), (4, .int v4)]) G dM_volume_144 (by decide) rfl ?_
        refine w_sub (lv' := [(0, .ref (κ.1 0)), (1, .long (v1 + (r121 * r130))), (3, .int v3), (4, .int v4), (5, .int (v4 + (1 : Int32)))]) [2, 1, 3, 4, 0] rfl ?_
        obtain ⟨o146_17, eo146_17, h⟩ := bd h
        refine lM_volume_146_ok G X F τ v3 v4 F (v1 + (r121 * r130)) (v4 + (1 : Int32)) o146_17 eo146_17 ?_
        refine w_iinc (pc := 192) (q0 := 3) (v := (v4 + 1)) (lv' := [(4, .int (v4 + 1)), (0, .ref (κ.1 0)), (1, .long o146_17), (3, .int v3)]) G dM_volume_192 rfl rfl (by decide) rfl ?_
        refine w_goto (pc := 195) (tgt := 100) G dM_volume_195 (by decide) ?_
        refine w_sub (lv' := [(0, .ref (κ.1 0)), (1, .long o146_17), (3, .int v3), (4, .int (v4 + 1))]) [1, 2, 3, 0] rfl ?_
        exact ih o146_17 (v4 + 1) out h K
      · have h := if_f c112 h
        refine w_lconst (pc := 137) (v := (0 : Int64)) G dM_volume_137 (by decide) ?_
        refine w_ladd (pc := 138) G dM_volume_138 ?_
        refine w_lstore_n (pc := 139) (lv' := [(1, .long (v1 + (0 : Int64))), (0, .ref (κ.1 0)), (3, .int v3), (4, .int v4)]) G dM_volume_139 rfl (by decide) rfl ?_
        refine w_iload (pc := 140) (q := 3) G dM_volume_140 rfl ?_
        refine w_iconst (pc := 142) (v := (1 : Int32)) G dM_volume_142 (by decide) ?_
        refine w_iadd (pc := 143) G dM_volume_143 ?_
        refine w_istore (pc := 144) (lv' := [(5, .int (v4 + (1 : Int32))), (1, .long (v1 + (0 : Int64))), (0, .ref (κ.1 0)), (3, .int v3), (4, .int v4)]) G dM_volume_144 (by decide) rfl ?_
        refine w_sub (lv' := [(0, .ref (κ.1 0)), (1, .long (v1 + (0 : Int64))), (3, .int v3), (4, .int v4), (5, .int (v4 + (1 : Int32)))]) [2, 1, 3, 4, 0] rfl ?_
        obtain ⟨o146_18, eo146_18, h⟩ := bd h
        refine lM_volume_146_ok G X F τ v3 v4 F (v1 + (0 : Int64)) (v4 + (1 : Int32)) o146_18 eo146_18 ?_
        refine w_iinc (pc := 192) (q0 := 3) (v := (v4 + 1)) (lv' := [(4, .int (v4 + 1)), (0, .ref (κ.1 0)), (1, .long o146_18), (3, .int v3)]) G dM_volume_192 rfl rfl (by decide) rfl ?_
        refine w_goto (pc := 195) (tgt := 100) G dM_volume_195 (by decide) ?_
        refine w_sub (lv' := [(0, .ref (κ.1 0)), (1, .long o146_18), (3, .int v3), (4, .int (v4 + 1))]) [1, 2, 3, 0] rfl ?_
        exact ih o146_18 (v4 + 1) out h K
noncomputable def lM_volume_62 (F : Nat) (τ : MS)  : Nat → Int64 → Int32 → Option (Int64)
  | 0, _, _ => none
  | n + 1, v1, v3 => if (4 : Int32) ≤ v3 then some (v1) else if (m_rows τ) = (1 : Int32) then gd (vp_in v3 16) (gd (vp_in v3 16) ((lM_volume_100 F τ v3 F (v1 + (((m_row τ) v3.toNatClampNeg) * ((m_row τ) v3.toNatClampNeg))) (v3 + (1 : Int32))).bind (fun o100_18 => lM_volume_62 F τ n o100_18 (v3 + 1)))) else (lM_volume_100 F τ v3 F (v1 + (0 : Int64)) (v3 + (1 : Int32))).bind (fun o100_19 => lM_volume_62 F τ n o100_19 (v3 + 1))
set_option maxHeartbeats 4000000 in
set_option maxRecDepth 100000 in
theorem lM_volume_62_ok {g : Gm} {κ : ctx} (G : OK g κ RM cM_volume 6 (some .long) rm_M_volume) (X : Nat → va_E) (F : Nat) (τ : MS)  : ∀ (n : Nat) (v1 : Int64) (v3 : Int32) (out : Int64), lM_volume_62 F τ n v1 v3 = some out → (J g κ 6 204 [(1, .long out)] [] (LM κ τ X)) → J g κ 6 62 [(0, .ref (κ.1 0)), (1, .long v1), (3, .int v3)] [] (LM κ τ X) := by
  intro n
  induction n with
  | zero =>
    intro v1 v3
    intro out h
    rw [lM_volume_62] at h
    cases h
  | succ n ih =>
    intro v1 v3 out h K
    rw [lM_volume_62] at h
    refine w_iload_n (pc := 62) (q := 2) G dM_volume_62 rfl rfl ?_
    refine w_iconst (pc := 63) (v := (4 : Int32)) G dM_volume_63 (by decide) ?_
    refine w_icmp_ge (pc := 64) (tgt := 204) G dM_volume_64 (by decide) (fun c64 => ?_) (fun c64 => ?_)
    · have h := if_t c64 h
      obtain rfl := Option.some.inj h
      refine w_sub (lv' := [(1, .long v1)]) [1] rfl ?_
      exact K
    · have h := if_f c64 h
      refine w_lload_n (pc := 67) (q := 1) G dM_volume_67 rfl rfl ?_
      refine w_aload_n (pc := 68) (q := 0) G dM_volume_68 rfl rfl ?_
      refine w_get (pc := 69) (v := .int (m_rows τ)) (fs := mfl κ τ) G 0 (by decide) rfl rfl wsM_ok 4 (by decide) wd494 rfl dM_volume_69 ?_
      refine w_iconst (pc := 72) (v := (1 : Int32)) G dM_volume_72 (by decide) ?_
      refine w_icmp_ne (pc := 73) (tgt := 92) G dM_volume_73 (by decide) (fun c73 => ?_) (fun c73 => ?_)
      · have h := if_t c73 h
        refine w_aload_n (pc := 76) (q := 0) G dM_volume_76 rfl rfl ?_
        refine w_get (pc := 77) (v := .ref (κ.1 2)) (fs := mfl κ τ) G 0 (by decide) rfl rfl wsM_ok 5 (by decide) wd495 rfl dM_volume_77 ?_
        refine w_iload_n (pc := 80) (q := 2) G dM_volume_80 rfl rfl ?_
        obtain ⟨i81, h⟩ := gd_some h
        refine w_lald (pc := 81) (n := 16) (f := (m_row τ)) G 2 (by decide) rfl i81 dM_volume_81 ?_
        refine w_aload_n (pc := 82) (q := 0) G dM_volume_82 rfl rfl ?_
        refine w_get (pc := 83) (v := .ref (κ.1 2)) (fs := mfl κ τ) G 0 (by decide) rfl rfl wsM_ok 5 (by decide) wd495 rfl dM_volume_83 ?_
        refine w_iload_n (pc := 86) (q := 2) G dM_volume_86 rfl rfl ?_
        obtain ⟨i87, h⟩ := gd_some h
        refine w_lald (pc := 87) (n := 16) (f := (m_row τ)) G 2 (by decide) rfl i87 dM_volume_87 ?_
        refine w_lmul (pc := 88) G dM_volume_88 ?_
        refine w_goto (pc := 89) (tgt := 93) G dM_volume_89 (by decide) ?_
        refine w_ladd (pc := 93) G dM_volume_93 ?_
        refine w_lstore_n (pc := 94) (lv' := [(1, .long (v1 + (((m_row τ) v3.toNatClampNeg) * ((m_row τ) v3.toNatClampNeg)))), (0, .ref (κ.1 0)), (3, .int v3)]) G dM_volume_94 rfl (by decide) rfl ?_
        refine w_iload_n (pc := 95) (q := 2) G dM_volume_95 rfl rfl ?_
        refine w_iconst (pc := 96) (v := (1 : Int32)) G dM_volume_96 (by decide) ?_
        refine w_iadd (pc := 97) G dM_volume_97 ?_
        refine w_istore (pc := 98) (lv' := [(4, .int (v3 + (1 : Int32))), (1, .long (v1 + (((m_row τ) v3.toNatClampNeg) * ((m_row τ) v3.toNatClampNeg)))), (0, .ref (κ.1 0)), (3, .int v3)]) G dM_volume_98 (by decide) rfl ?_
        refine w_sub (lv' := [(0, .ref (κ.1 0)), (1, .long (v1 + (((m_row τ) v3.toNatClampNeg) * ((m_row τ) v3.toNatClampNeg)))), (3, .int v3), (4, .int (v3 + (1 : Int32)))]) [2, 1, 3, 0] rfl ?_
        obtain ⟨o100_18, eo100_18, h⟩ := bd h
        refine lM_volume_100_ok G X F τ v3 F (v1 + (((m_row τ) v3.toNatClampNeg) * ((m_row τ) v3.toNatClampNeg))) (v3 + (1 : Int32)) o100_18 eo100_18 ?_
        refine w_iinc (pc := 198) (q0 := 2) (v := (v3 + 1)) (lv' := [(3, .int (v3 + 1)), (0, .ref (κ.1 0)), (1, .long o100_18)]) G dM_volume_198 rfl rfl (by decide) rfl ?_
        refine w_goto (pc := 201) (tgt := 62) G dM_volume_201 (by decide) ?_
        refine w_sub (lv' := [(0, .ref (κ.1 0)), (1, .long o100_18), (3, .int (v3 + 1))]) [1, 2, 0] rfl ?_
        exact ih o100_18 (v3 + 1) out h K
      · have h := if_f c73 h
        refine w_lconst (pc := 92) (v := (0 : Int64)) G dM_volume_92 (by decide) ?_
        refine w_ladd (pc := 93) G dM_volume_93 ?_
        refine w_lstore_n (pc := 94) (lv' := [(1, .long (v1 + (0 : Int64))), (0, .ref (κ.1 0)), (3, .int v3)]) G dM_volume_94 rfl (by decide) rfl ?_
        refine w_iload_n (pc := 95) (q := 2) G dM_volume_95 rfl rfl ?_
        refine w_iconst (pc := 96) (v := (1 : Int32)) G dM_volume_96 (by decide) ?_
        refine w_iadd (pc := 97) G dM_volume_97 ?_
        refine w_istore (pc := 98) (lv' := [(4, .int (v3 + (1 : Int32))), (1, .long (v1 + (0 : Int64))), (0, .ref (κ.1 0)), (3, .int v3)]) G dM_volume_98 (by decide) rfl ?_
        refine w_sub (lv' := [(0, .ref (κ.1 0)), (1, .long (v1 + (0 : Int64))), (3, .int v3), (4, .int (v3 + (1 : Int32)))]) [2, 1, 3, 0] rfl ?_
        obtain ⟨o100_19, eo100_19, h⟩ := bd h
        refine lM_volume_100_ok G X F τ v3 F (v1 + (0 : Int64)) (v3 + (1 : Int32)) o100_19 eo100_19 ?_
        refine w_iinc (pc := 198) (q0 := 2) (v := (v3 + 1)) (lv' := [(3, .int (v3 + 1)), (0, .ref (κ.1 0)), (1, .long o100_19)]) G dM_volume_198 rfl rfl (by decide) rfl ?_
        refine w_goto (pc := 201) (tgt := 62) G dM_volume_201 (by decide) ?_
        refine w_sub (lv' := [(0, .ref (κ.1 0)), (1, .long o100_19), (3, .int (v3 + 1))]) [1, 2, 0] rfl ?_
        exact ih o100_19 (v3 + 1) out h K
noncomputable def M_volume (F : Nat) (τ : MS)  : Option (Int64 × MS) := (M_look F τ (-1 : Int32)).bind (fun r2 => if (m_rows r2) = 0 then if (m_rows r2) = (4 : Int32) then gd (vp_in (0 : Int32) 16) (gd (vp_in (5 : Int32) 16) (gd (vp_in (10 : Int32) 16) (gd (vp_in (15 : Int32) 16) (some (((((((m_row r2) (0 : Int32).toNatClampNeg) * ((m_row r2) (5 : Int32).toNatClampNeg)) * ((m_row r2) (10 : Int32).toNatClampNeg)) * ((m_row r2) (15 : Int32).toNatClampNeg)) * (((((m_row r2) (0 : Int32).toNatClampNeg) * ((m_row r2) (5 : Int32).toNatClampNeg)) * ((m_row r2) (10 : Int32).toNatClampNeg)) * ((m_row r2) (15 : Int32).toNatClampNeg))), r2))))) else (lM_volume_62 F r2 F (1 : Int64) (0 : Int32)).bind (fun o62_19 => some (o62_19, r2)) else if (m_rows r2) = (4 : Int32) then gd (vp_in (0 : Int32) 16) (gd (vp_in (5 : Int32) 16) (gd (vp_in (10 : Int32) 16) (gd (vp_in (15 : Int32) 16) (some (((((((m_row r2) (0 : Int32).toNatClampNeg) * ((m_row r2) (5 : Int32).toNatClampNeg)) * ((m_row r2) (10 : Int32).toNatClampNeg)) * ((m_row r2) (15 : Int32).toNatClampNeg)) * (((((m_row r2) (0 : Int32).toNatClampNeg) * ((m_row r2) (5 : Int32).toNatClampNeg)) * ((m_row r2) (10 : Int32).toNatClampNeg)) * ((m_row r2) (15 : Int32).toNatClampNeg))), r2))))) else (lM_volume_62 F r2 F (0 : Int64) (0 : Int32)).bind (fun o62_22 => some (o62_22, r2)))
set_option maxHeartbeats 4000000 in
set_option maxRecDepth 100000 in
theorem met_M_volume (κ : ctx) (X : Nat → va_E) (F : Nat) (τ : MS)  {out : Int64 × MS} (h : M_volume F τ  = some out) : Mt yM_volume cM_volume 6 (some .long) rm_M_volume κ [.ref (κ.1 0)] (LM κ τ X) (some (.long out.1)) (LM κ out.2 X) := by
  refine Mt.of (by decide) (Nat.le_of_ble_eq_true rfl) ?_
  intro g G Fh
  unfold M_volume at h
  show J g κ 6 0 [(0, .ref (κ.1 0))] [] (LM κ τ X)
  refine w_aload_n (pc := 0) (q := 0) G dM_volume_0 rfl rfl ?_
  refine w_iconst (pc := 1) (v := (-1 : Int32)) G dM_volume_1 (by decide) ?_
  obtain ⟨r2, e2, h⟩ := bd h
  refine w_callV (pc := 2) (av := [.int (-1 : Int32)]) (rest := []) (v := none) (L' := (LM κ r2 X)) (T := TM) (fs := mfl κ τ) G 0 0 27 (by decide) rfl rfl cb_M_look_M_volume wd597 ws20 wd595 (met_M_look κ X F τ (-1 : Int32) e2) rfl rfl rfl (Nat.le_of_ble_eq_true rfl) dM_volume_2 ?_
  refine w_aload_n (pc := 5) (q := 0) G dM_volume_5 rfl rfl ?_
  refine w_get (pc := 6) (v := .int (m_rows r2)) (fs := mfl κ r2) G 0 (by decide) rfl rfl wsM_ok 4 (by decide) wd494 rfl dM_volume_6 ?_
  refine w_if_ne (pc := 9) (tgt := 16) G dM_volume_9 (by decide) (fun c9 => ?_) (fun c9 => ?_)
  · have h := if_t c9 h
    refine w_lconst (pc := 12) (v := (1 : Int64)) G dM_volume_12 (by decide) ?_
    refine w_goto (pc := 13) (tgt := 17) G dM_volume_13 (by decide) ?_
    refine w_lstore_n (pc := 17) (lv' := [(1, .long (1 : Int64)), (0, .ref (κ.1 0))]) G dM_volume_17 rfl (by decide) rfl ?_
    refine w_aload_n (pc := 18) (q := 1) G dM_volume_18 rfl rfl ?_
    refine w_get (pc := 19) (v := .int (m_rows r2)) (fs := mfl κ r2) G 0 (by decide) rfl rfl wsM_ok 4 (by decide) wd494 rfl dM_volume_19 ?_
    refine w_iconst (pc := 22) (v := (4 : Int32)) G dM_volume_22 (by decide) ?_
    refine w_icmp_ne (pc := 23) (tgt := 60) G dM_volume_23 (by decide) (fun c23 => ?_) (fun c23 => ?_)
    · have h := if_t c23 h
      refine w_aload_n (pc := 26) (q := 1) G dM_volume_26 rfl rfl ?_
      refine w_get (pc := 27) (v := .ref (κ.1 2)) (fs := mfl κ r2) G 0 (by decide) rfl rfl wsM_ok 5 (by decide) wd495 rfl dM_volume_27 ?_
      refine w_iconst (pc := 30) (v := (0 : Int32)) G dM_volume_30 (by decide) ?_
      obtain ⟨i31, h⟩ := gd_some h
      refine w_lald (pc := 31) (n := 16) (f := (m_row r2)) G 2 (by decide) rfl i31 dM_volume_31 ?_
      refine w_aload_n (pc := 32) (q := 1) G dM_volume_32 rfl rfl ?_
      refine w_get (pc := 33) (v := .ref (κ.1 2)) (fs := mfl κ r2) G 0 (by decide) rfl rfl wsM_ok 5 (by decide) wd495 rfl dM_volume_33 ?_
      refine w_iconst (pc := 36) (v := (5 : Int32)) G dM_volume_36 (by decide) ?_
      obtain ⟨i37, h⟩ := gd_some h
      refine w_lald (pc := 37) (n := 16) (f := (m_row r2)) G 2 (by decide) rfl i37 dM_volume_37 ?_
      refine w_lmul (pc := 38) G dM_volume_38 ?_
      refine w_aload_n (pc := 39) (q := 1) G dM_volume_39 rfl rfl ?_
      refine w_get (pc := 40) (v := .ref (κ.1 2)) (fs := mfl κ r2) G 0 (by decide) rfl rfl wsM_ok 5 (by decide) wd495 rfl dM_volume_40 ?_
      refine w_bipush (pc := 43) (v := (10 : Int32)) G dM_volume_43 (by decide) ?_
      obtain ⟨i45, h⟩ := gd_some h
      refine w_lald (pc := 45) (n := 16) (f := (m_row r2)) G 2 (by decide) rfl i45 dM_volume_45 ?_
      refine w_lmul (pc := 46) G dM_volume_46 ?_
      refine w_aload_n (pc := 47) (q := 1) G dM_volume_47 rfl rfl ?_
      refine w_get (pc := 48) (v := .ref (κ.1 2)) (fs := mfl κ r2) G 0 (by decide) rfl rfl wsM_ok 5 (by decide) wd495 rfl dM_volume_48 ?_
      refine w_bipush (pc := 51) (v := (15 : Int32)) G dM_volume_51 (by decide) ?_
      obtain ⟨i53, h⟩ := gd_some h
      refine w_lald (pc := 53) (n := 16) (f := (m_row r2)) G 2 (by decide) rfl i53 dM_volume_53 ?_
      refine w_lmul (pc := 54) G dM_volume_54 ?_
      refine w_lstore_n (pc := 55) (lv' := [(3, .long (((((m_row r2) (0 : Int32).toNatClampNeg) * ((m_row r2) (5 : Int32).toNatClampNeg)) * ((m_row r2) (10 : Int32).toNatClampNeg)) * ((m_row r2) (15 : Int32).toNatClampNeg))), (1, .long (1 : Int64)), (0, .ref (κ.1 0))]) G dM_volume_55 rfl (by decide) rfl ?_
      refine w_lload_n (pc := 56) (q := 0) G dM_volume_56 rfl rfl ?_
      refine w_lload_n (pc := 57) (q := 0) G dM_volume_57 rfl rfl ?_
      refine w_lmul (pc := 58) G dM_volume_58 ?_
      obtain rfl := Option.some.inj h
      exact w_lret (pc := 59) G dM_volume_59 Fh
    · have h := if_f c23 h
      refine w_iconst (pc := 60) (v := (0 : Int32)) G dM_volume_60 (by decide) ?_
      refine w_istore_n (pc := 61) (lv' := [(3, .int (0 : Int32)), (1, .long (1 : Int64)), (0, .ref (κ.1 0))]) G dM_volume_61 rfl (by decide) rfl ?_
      refine w_sub (lv' := [(0, .ref (κ.1 0)), (1, .long (1 : Int64)), (3, .int (0 : Int32))]) [2, 1, 0] rfl ?_
      obtain ⟨o62_19, eo62_19, h⟩ := bd h
      refine lM_volume_62_ok G X F r2 F (1 : Int64) (0 : Int32) o62_19 eo62_19 ?_
      refine w_lload_n (pc := 204) (q := 0) G dM_volume_204 rfl rfl ?_
      obtain rfl := Option.some.inj h
      exact w_lret (pc := 205) G dM_volume_205 Fh
  · have h := if_f c9 h
    refine w_lconst (pc := 16) (v := (0 : Int64)) G dM_volume_16 (by decide) ?_
    refine w_lstore_n (pc := 17) (lv' := [(1, .long (0 : Int64)), (0, .ref (κ.1 0))]) G dM_volume_17 rfl (by decide) rfl ?_
    refine w_aload_n (pc := 18) (q := 1) G dM_volume_18 rfl rfl ?_
    refine w_get (pc := 19) (v := .int (m_rows r2)) (fs := mfl κ r2) G 0 (by decide) rfl rfl wsM_ok 4 (by decide) wd494 rfl dM_volume_19 ?_
    refine w_iconst (pc := 22) (v := (4 : Int32)) G dM_volume_22 (by decide) ?_
    refine w_icmp_ne (pc := 23) (tgt := 60) G dM_volume_23 (by decide) (fun c23 => ?_) (fun c23 => ?_)
    · have h := if_t c23 h
      refine w_aload_n (pc := 26) (q := 1) G dM_volume_26 rfl rfl ?_
      refine w_get (pc := 27) (v := .ref (κ.1 2)) (fs := mfl κ r2) G 0 (by decide) rfl rfl wsM_ok 5 (by decide) wd495 rfl dM_volume_27 ?_
      refine w_iconst (pc := 30) (v := (0 : Int32)) G dM_volume_30 (by decide) ?_
      obtain ⟨i31, h⟩ := gd_some h
      refine w_lald (pc := 31) (n := 16) (f := (m_row r2)) G 2 (by decide) rfl i31 dM_volume_31 ?_
      refine w_aload_n (pc := 32) (q := 1) G dM_volume_32 rfl rfl ?_
      refine w_get (pc := 33) (v := .ref (κ.1 2)) (fs := mfl κ r2) G 0 (by decide) rfl rfl wsM_ok 5 (by decide) wd495 rfl dM_volume_33 ?_
      refine w_iconst (pc := 36) (v := (5 : Int32)) G dM_volume_36 (by decide) ?_
      obtain ⟨i37, h⟩ := gd_some h
      refine w_lald (pc := 37) (n := 16) (f := (m_row r2)) G 2 (by decide) rfl i37 dM_volume_37 ?_
      refine w_lmul (pc := 38) G dM_volume_38 ?_
      refine w_aload_n (pc := 39) (q := 1) G dM_volume_39 rfl rfl ?_
      refine w_get (pc := 40) (v := .ref (κ.1 2)) (fs := mfl κ r2) G 0 (by decide) rfl rfl wsM_ok 5 (by decide) wd495 rfl dM_volume_40 ?_
      refine w_bipush (pc := 43) (v := (10 : Int32)) G dM_volume_43 (by decide) ?_
      obtain ⟨i45, h⟩ := gd_some h
      refine w_lald (pc := 45) (n := 16) (f := (m_row r2)) G 2 (by decide) rfl i45 dM_volume_45 ?_
      refine w_lmul (pc := 46) G dM_volume_46 ?_
      refine w_aload_n (pc := 47) (q := 1) G dM_volume_47 rfl rfl ?_
      refine w_get (pc := 48) (v := .ref (κ.1 2)) (fs := mfl κ r2) G 0 (by decide) rfl rfl wsM_ok 5 (by decide) wd495 rfl dM_volume_48 ?_
      refine w_bipush (pc := 51) (v := (15 : Int32)) G dM_volume_51 (by decide) ?_
      obtain ⟨i53, h⟩ := gd_some h
      refine w_lald (pc := 53) (n := 16) (f := (m_row r2)) G 2 (by decide) rfl i53 dM_volume_53 ?_
      refine w_lmul (pc := 54) G dM_volume_54 ?_
      refine w_lstore_n (pc := 55) (lv' := [(3, .long (((((m_row r2) (0 : Int32).toNatClampNeg) * ((m_row r2) (5 : Int32).toNatClampNeg)) * ((m_row r2) (10 : Int32).toNatClampNeg)) * ((m_row r2) (15 : Int32).toNatClampNeg))), (1, .long (0 : Int64)), (0, .ref (κ.1 0))]) G dM_volume_55 rfl (by decide) rfl ?_
      refine w_lload_n (pc := 56) (q := 0) G dM_volume_56 rfl rfl ?_
      refine w_lload_n (pc := 57) (q := 0) G dM_volume_57 rfl rfl ?_
      refine w_lmul (pc := 58) G dM_volume_58 ?_
      obtain rfl := Option.some.inj h
      exact w_lret (pc := 59) G dM_volume_59 Fh
    · have h := if_f c23 h
      refine w_iconst (pc := 60) (v := (0 : Int32)) G dM_volume_60 (by decide) ?_
      refine w_istore_n (pc := 61) (lv' := [(3, .int (0 : Int32)), (1, .long (0 : Int64)), (0, .ref (κ.1 0))]) G dM_volume_61 rfl (by decide) rfl ?_
      refine w_sub (lv' := [(0, .ref (κ.1 0)), (1, .long (0 : Int64)), (3, .int (0 : Int32))]) [2, 1, 0] rfl ?_
      obtain ⟨o62_22, eo62_22, h⟩ := bd h
      refine lM_volume_62_ok G X F r2 F (0 : Int64) (0 : Int32) o62_22 eo62_22 ?_
      refine w_lload_n (pc := 204) (q := 0) G dM_volume_204 rfl rfl ?_
      obtain rfl := Option.some.inj h
      exact w_lret (pc := 205) G dM_volume_205 Fh
def rm_M_set : Room := { frames := 0, cells := 0, slots := 0, locals := 0 }
theorem dM_set_0 : decode cM_set 0 = .ok (.aload_n 0, 1) := by decide +kernel
theorem dM_set_1 : decode cM_set 1 = .ok (.getfield 20, 3) := by decide +kernel
theorem dM_set_4 : decode cM_set 4 = .ok (.iconst 0, 1) := by decide +kernel
theorem dM_set_5 : decode cM_set 5 = .ok (.iload_n 1, 1) := by decide +kernel
theorem dM_set_6 : decode cM_set 6 = .ok (.i2l, 1) := by decide +kernel
theorem dM_set_7 : decode cM_set 7 = .ok (.lastore, 1) := by decide +kernel
theorem dM_set_8 : decode cM_set 8 = .ok (.aload_n 0, 1) := by decide +kernel
theorem dM_set_9 : decode cM_set 9 = .ok (.getfield 20, 3) := by decide +kernel
theorem dM_set_12 : decode cM_set 12 = .ok (.iconst 1, 1) := by decide +kernel
theorem dM_set_13 : decode cM_set 13 = .ok (.iload_n 2, 1) := by decide +kernel
theorem dM_set_14 : decode cM_set 14 = .ok (.i2l, 1) := by decide +kernel
theorem dM_set_15 : decode cM_set 15 = .ok (.lastore, 1) := by decide +kernel
theorem dM_set_16 : decode cM_set 16 = .ok (.aload_n 0, 1) := by decide +kernel
theorem dM_set_17 : decode cM_set 17 = .ok (.getfield 20, 3) := by decide +kernel
theorem dM_set_20 : decode cM_set 20 = .ok (.iconst 2, 1) := by decide +kernel
theorem dM_set_21 : decode cM_set 21 = .ok (.iload_n 3, 1) := by decide +kernel
theorem dM_set_22 : decode cM_set 22 = .ok (.i2l, 1) := by decide +kernel
theorem dM_set_23 : decode cM_set 23 = .ok (.lastore, 1) := by decide +kernel
theorem dM_set_24 : decode cM_set 24 = .ok (.aload_n 0, 1) := by decide +kernel
theorem dM_set_25 : decode cM_set 25 = .ok (.getfield 20, 3) := by decide +kernel
theorem dM_set_28 : decode cM_set 28 = .ok (.iconst 3, 1) := by decide +kernel
theorem dM_set_29 : decode cM_set 29 = .ok (.iload 4, 2) := by decide +kernel
theorem dM_set_31 : decode cM_set 31 = .ok (.i2l, 1) := by decide +kernel
theorem dM_set_32 : decode cM_set 32 = .ok (.lastore, 1) := by decide +kernel
theorem dM_set_33 : decode cM_set 33 = .ok (.return_, 1) := by decide +kernel
noncomputable def M_set (F : Nat) (τ : MS) (v1 : Int32) (v2 : Int32) (v3 : Int32) (v4 : Int32) : Option (MS) := gd (vp_in (0 : Int32) 4) (gd (vp_in (1 : Int32) 4) (gd (vp_in (2 : Int32) 4) (gd (vp_in (3 : Int32) 4) (some (s_fresh τ (vp_updL (vp_updL (vp_updL (vp_updL (m_fresh τ) (0 : Int32).toNatClampNeg ((v1).toInt64)) (1 : Int32).toNatClampNeg ((v2).toInt64)) (2 : Int32).toNatClampNeg ((v3).toInt64)) (3 : Int32).toNatClampNeg ((v4).toInt64)))))))
set_option maxHeartbeats 4000000 in
set_option maxRecDepth 100000 in
theorem met_M_set (κ : ctx) (X : Nat → va_E) (F : Nat) (τ : MS) (v1 : Int32) (v2 : Int32) (v3 : Int32) (v4 : Int32) {out : MS} (h : M_set F τ v1 v2 v3 v4 = some out) : Mt yM_set cM_set 5 none rm_M_set κ [.ref (κ.1 0), .int v1, .int v2, .int v3, .int v4] (LM κ τ X) none (LM κ out X) := by
  refine Mt.of (by decide) (Nat.le_of_ble_eq_true rfl) ?_
  intro g G Fh
  unfold M_set at h
  show J g κ 5 0 [(0, .ref (κ.1 0)), (1, .int v1), (2, .int v2), (3, .int v3), (4, .int v4)] [] (LM κ τ X)
  refine w_aload_n (pc := 0) (q := 0) G dM_set_0 rfl rfl ?_
  refine w_get (pc := 1) (v := .ref (κ.1 4)) (fs := mfl κ τ) G 0 (by decide) rfl rfl wsM_ok 7 (by decide) wd497 rfl dM_set_1 ?_
  refine w_iconst (pc := 4) (v := (0 : Int32)) G dM_set_4 (by decide) ?_
  refine w_iload_n (pc := 5) (q := 1) G dM_set_5 rfl rfl ?_
  refine w_i2l (pc := 6) G dM_set_6 ?_
  obtain ⟨i7, h⟩ := gd_some h
  refine w_last (pc := 7) (n := 4) (f := (m_fresh τ)) (L1 := (LM κ (s_fresh τ (vp_updL (m_fresh τ) (0 : Int32).toNatClampNeg ((v1).toInt64))) X)) G 4 (by decide) rfl i7 dM_set_7 (LM_fresh κ τ X _) ?_
  refine w_aload_n (pc := 8) (q := 0) G dM_set_8 rfl rfl ?_
  refine w_get (pc := 9) (v := .ref (κ.1 4)) (fs := mfl κ (s_fresh τ (vp_updL (m_fresh τ) (0 : Int32).toNatClampNeg ((v1).toInt64)))) G 0 (by decide) rfl rfl wsM_ok 7 (by decide) wd497 rfl dM_set_9 ?_
  refine w_iconst (pc := 12) (v := (1 : Int32)) G dM_set_12 (by decide) ?_
  refine w_iload_n (pc := 13) (q := 2) G dM_set_13 rfl rfl ?_
  refine w_i2l (pc := 14) G dM_set_14 ?_
  obtain ⟨i15, h⟩ := gd_some h
  refine w_last (pc := 15) (n := 4) (f := vp_updL (m_fresh τ) (0 : Int32).toNatClampNeg ((v1).toInt64)) (L1 := (LM κ (s_fresh τ (vp_updL (vp_updL (m_fresh τ) (0 : Int32).toNatClampNeg ((v1).toInt64)) (1 : Int32).toNatClampNeg ((v2).toInt64))) X)) G 4 (by decide) rfl i15 dM_set_15 (LM_fresh κ (s_fresh τ (vp_updL (m_fresh τ) (0 : Int32).toNatClampNeg ((v1).toInt64))) X _) ?_
  refine w_aload_n (pc := 16) (q := 0) G dM_set_16 rfl rfl ?_
  refine w_get (pc := 17) (v := .ref (κ.1 4)) (fs := mfl κ (s_fresh τ (vp_updL (vp_updL (m_fresh τ) (0 : Int32).toNatClampNeg ((v1).toInt64)) (1 : Int32).toNatClampNeg ((v2).toInt64)))) G 0 (by decide) rfl rfl wsM_ok 7 (by decide) wd497 rfl dM_set_17 ?_
  refine w_iconst (pc := 20) (v := (2 : Int32)) G dM_set_20 (by decide) ?_
  refine w_iload_n (pc := 21) (q := 3) G dM_set_21 rfl rfl ?_
  refine w_i2l (pc := 22) G dM_set_22 ?_
  obtain ⟨i23, h⟩ := gd_some h
  refine w_last (pc := 23) (n := 4) (f := vp_updL (vp_updL (m_fresh τ) (0 : Int32).toNatClampNeg ((v1).toInt64)) (1 : Int32).toNatClampNeg ((v2).toInt64)) (L1 := (LM κ (s_fresh τ (vp_updL (vp_updL (vp_updL (m_fresh τ) (0 : Int32).toNatClampNeg ((v1).toInt64)) (1 : Int32).toNatClampNeg ((v2).toInt64)) (2 : Int32).toNatClampNeg ((v3).toInt64))) X)) G 4 (by decide) rfl i23 dM_set_23 (LM_fresh κ (s_fresh τ (vp_updL (vp_updL (m_fresh τ) (0 : Int32).toNatClampNeg ((v1).toInt64)) (1 : Int32).toNatClampNeg ((v2).toInt64))) X _) ?_
  refine w_aload_n (pc := 24) (q := 0) G dM_set_24 rfl rfl ?_
  refine w_get (pc := 25) (v := .ref (κ.1 4)) (fs := mfl κ (s_fresh τ (vp_updL (vp_updL (vp_updL (m_fresh τ) (0 : Int32).toNatClampNeg ((v1).toInt64)) (1 : Int32).toNatClampNeg ((v2).toInt64)) (2 : Int32).toNatClampNeg ((v3).toInt64)))) G 0 (by decide) rfl rfl wsM_ok 7 (by decide) wd497 rfl dM_set_25 ?_
  refine w_iconst (pc := 28) (v := (3 : Int32)) G dM_set_28 (by decide) ?_
  refine w_iload (pc := 29) (q := 4) G dM_set_29 rfl ?_
  refine w_i2l (pc := 31) G dM_set_31 ?_
  obtain ⟨i32, h⟩ := gd_some h
  refine w_last (pc := 32) (n := 4) (f := vp_updL (vp_updL (vp_updL (m_fresh τ) (0 : Int32).toNatClampNeg ((v1).toInt64)) (1 : Int32).toNatClampNeg ((v2).toInt64)) (2 : Int32).toNatClampNeg ((v3).toInt64)) (L1 := (LM κ (s_fresh τ (vp_updL (vp_updL (vp_updL (vp_updL (m_fresh τ) (0 : Int32).toNatClampNeg ((v1).toInt64)) (1 : Int32).toNatClampNeg ((v2).toInt64)) (2 : Int32).toNatClampNeg ((v3).toInt64)) (3 : Int32).toNatClampNeg ((v4).toInt64))) X)) G 4 (by decide) rfl i32 dM_set_32 (LM_fresh κ (s_fresh τ (vp_updL (vp_updL (vp_updL (m_fresh τ) (0 : Int32).toNatClampNeg ((v1).toInt64)) (1 : Int32).toNatClampNeg ((v2).toInt64)) (2 : Int32).toNatClampNeg ((v3).toInt64))) X _) ?_
  obtain rfl := Option.some.inj h
  exact w_vret (pc := 33) G dM_set_33 Fh
def rm_M_common : Room := { frames := 0, cells := 0, slots := 0, locals := 0 }
theorem dM_common_0 : decode cM_common 0 = .ok (.lload_n 0, 1) := by decide +kernel
theorem dM_common_1 : decode cM_common 1 = .ok (.lstore 4, 2) := by decide +kernel
theorem dM_common_3 : decode cM_common 3 = .ok (.lload_n 2, 1) := by decide +kernel
theorem dM_common_4 : decode cM_common 4 = .ok (.lconst 0, 1) := by decide +kernel
theorem dM_common_5 : decode cM_common 5 = .ok (.lcmp, 1) := by decide +kernel
theorem dM_common_6 : decode cM_common 6 = .ok (.ifCond .ge 8, 3) := by decide +kernel
theorem dM_common_9 : decode cM_common 9 = .ok (.lload_n 2, 1) := by decide +kernel
theorem dM_common_10 : decode cM_common 10 = .ok (.lneg, 1) := by decide +kernel
theorem dM_common_11 : decode cM_common 11 = .ok (.goto 4, 3) := by decide +kernel
theorem dM_common_14 : decode cM_common 14 = .ok (.lload_n 2, 1) := by decide +kernel
theorem dM_common_15 : decode cM_common 15 = .ok (.lstore 6, 2) := by decide +kernel
theorem dM_common_17 : decode cM_common 17 = .ok (.lload 6, 2) := by decide +kernel
theorem dM_common_19 : decode cM_common 19 = .ok (.lconst 0, 1) := by decide +kernel
theorem dM_common_20 : decode cM_common 20 = .ok (.lcmp, 1) := by decide +kernel
theorem dM_common_21 : decode cM_common 21 = .ok (.ifCond .eq 21, 3) := by decide +kernel
theorem dM_common_24 : decode cM_common 24 = .ok (.lload 4, 2) := by decide +kernel
theorem dM_common_26 : decode cM_common 26 = .ok (.lload 6, 2) := by decide +kernel
theorem dM_common_28 : decode cM_common 28 = .ok (.lrem, 1) := by decide +kernel
theorem dM_common_29 : decode cM_common 29 = .ok (.lstore 8, 2) := by decide +kernel
theorem dM_common_31 : decode cM_common 31 = .ok (.lload 6, 2) := by decide +kernel
theorem dM_common_33 : decode cM_common 33 = .ok (.lstore 4, 2) := by decide +kernel
theorem dM_common_35 : decode cM_common 35 = .ok (.lload 8, 2) := by decide +kernel
theorem dM_common_37 : decode cM_common 37 = .ok (.lstore 6, 2) := by decide +kernel
theorem dM_common_39 : decode cM_common 39 = .ok (.goto (-22), 3) := by decide +kernel
theorem dM_common_42 : decode cM_common 42 = .ok (.lload 4, 2) := by decide +kernel
theorem dM_common_44 : decode cM_common 44 = .ok (.lreturn, 1) := by decide +kernel
noncomputable def lM_common_17 (F : Nat)  : Nat → Int64 → Int64 → Option (Int64)
  | 0, _, _ => none
  | n + 1, v4, v6 => if v6 = (0 : Int64) then some (v4) else gd (¬ v6 = 0) (lM_common_17 F  n v6 (v4 - v4 / v6 * v6))
set_option maxHeartbeats 4000000 in
set_option maxRecDepth 100000 in
theorem lM_common_17_ok {g : Gm} {κ : ctx} (G : OK g κ RM cM_common 10 (some .long) rm_M_common) (L : Nat → va_E) (F : Nat)  : ∀ (n : Nat) (v4 : Int64) (v6 : Int64) (out : Int64), lM_common_17 F  n v4 v6 = some out → (J g κ 10 42 [(4, .long out)] [] L) → J g κ 10 17 [(4, .long v4), (6, .long v6)] [] L := by
  intro n
  induction n with
  | zero =>
    intro v4 v6
    intro out h
    rw [lM_common_17] at h
    cases h
  | succ n ih =>
    intro v4 v6 out h K
    rw [lM_common_17] at h
    refine w_lload (pc := 17) (q := 1) G dM_common_17 rfl ?_
    refine w_lconst (pc := 19) (v := (0 : Int64)) G dM_common_19 (by decide) ?_
    refine w_lc_eq (pc := 20) (tgt := 42) G dM_common_20 dM_common_21 (by decide) (fun c20 => ?_) (fun c20 => ?_)
    · have h := if_t c20 h
      obtain rfl := Option.some.inj h
      refine w_sub (lv' := [(4, .long v4)]) [0] rfl ?_
      exact K
    · have h := if_f c20 h
      refine w_lload (pc := 24) (q := 0) G dM_common_24 rfl ?_
      refine w_lload (pc := 26) (q := 1) G dM_common_26 rfl ?_
      obtain ⟨z28, h⟩ := gd_some h
      refine w_lrem (pc := 28) G dM_common_28 z28 ?_
      refine w_lstore (pc := 29) (lv' := [(8, .long (v4 - v4 / v6 * v6)), (4, .long v4), (6, .long v6)]) G dM_common_29 (by decide) rfl ?_
      refine w_lload (pc := 31) (q := 2) G dM_common_31 rfl ?_
      refine w_lstore (pc := 33) (lv' := [(4, .long v6), (8, .long (v4 - v4 / v6 * v6)), (6, .long v6)]) G dM_common_33 (by decide) rfl ?_
      refine w_lload (pc := 35) (q := 1) G dM_common_35 rfl ?_
      refine w_lstore (pc := 37) (lv' := [(6, .long (v4 - v4 / v6 * v6)), (4, .long v6), (8, .long (v4 - v4 / v6 * v6))]) G dM_common_37 (by decide) rfl ?_
      refine w_goto (pc := 39) (tgt := 17) G dM_common_39 (by decide) ?_
      refine w_sub (lv' := [(4, .long v6), (6, .long (v4 - v4 / v6 * v6))]) [1, 0] rfl ?_
      exact ih v6 (v4 - v4 / v6 * v6) out h K
noncomputable def M_common (F : Nat) (v0 : Int64) (v2 : Int64) : Option (Int64) := if (0 : Int64) ≤ v2 then (lM_common_17 F  F v0 v2).bind (fun o17_5 => some o17_5) else (lM_common_17 F  F v0 (-v2)).bind (fun o17_6 => some o17_6)
set_option maxHeartbeats 4000000 in
set_option maxRecDepth 100000 in
theorem met_M_common (κ : ctx) (L : Nat → va_E) (F : Nat) (v0 : Int64) (v2 : Int64) {out : Int64} (h : M_common F v0 v2 = some out) : Mt yM_common cM_common 10 (some .long) rm_M_common κ [.long v0, .long v2] L (some (.long out)) L := by
  refine Mt.of (by decide) (Nat.le_of_ble_eq_true rfl) ?_
  intro g G Fh
  unfold M_common at h
  show J g κ 10 0 [(0, .long v0), (2, .long v2)] [] L
  refine w_lload_n (pc := 0) (q := 0) G dM_common_0 rfl rfl ?_
  refine w_lstore (pc := 1) (lv' := [(4, .long v0), (0, .long v0), (2, .long v2)]) G dM_common_1 (by decide) rfl ?_
  refine w_lload_n (pc := 3) (q := 2) G dM_common_3 rfl rfl ?_
  refine w_lconst (pc := 4) (v := (0 : Int64)) G dM_common_4 (by decide) ?_
  refine w_lc_ge (pc := 5) (tgt := 14) G dM_common_5 dM_common_6 (by decide) (fun c5 => ?_) (fun c5 => ?_)
  · have h := if_t c5 h
    refine w_lload_n (pc := 14) (q := 2) G dM_common_14 rfl rfl ?_
    refine w_lstore (pc := 15) (lv' := [(6, .long v2), (4, .long v0), (0, .long v0), (2, .long v2)]) G dM_common_15 (by decide) rfl ?_
    refine w_sub (lv' := [(4, .long v0), (6, .long v2)]) [1, 0] rfl ?_
    obtain ⟨o17_5, eo17_5, h⟩ := bd h
    refine lM_common_17_ok G L F  F v0 v2 o17_5 eo17_5 ?_
    refine w_lload (pc := 42) (q := 0) G dM_common_42 rfl ?_
    obtain rfl := Option.some.inj h
    exact w_lret (pc := 44) G dM_common_44 Fh
  · have h := if_f c5 h
    refine w_lload_n (pc := 9) (q := 2) G dM_common_9 rfl rfl ?_
    refine w_lneg (pc := 10) G dM_common_10 ?_
    refine w_goto (pc := 11) (tgt := 15) G dM_common_11 (by decide) ?_
    refine w_lstore (pc := 15) (lv' := [(6, .long (-v2)), (4, .long v0), (0, .long v0), (2, .long v2)]) G dM_common_15 (by decide) rfl ?_
    refine w_sub (lv' := [(4, .long v0), (6, .long (-v2))]) [1, 0] rfl ?_
    obtain ⟨o17_6, eo17_6, h⟩ := bd h
    refine lM_common_17_ok G L F  F v0 (-v2) o17_6 eo17_6 ?_
    refine w_lload (pc := 42) (q := 0) G dM_common_42 rfl ?_
    obtain rfl := Option.some.inj h
    exact w_lret (pc := 44) G dM_common_44 Fh
def rm_M_times : Room := { frames := 1, cells := 0, slots := 0, locals := 29 }
theorem dM_times_0 : decode cM_times 0 = .ok (.lconst 1, 1) := by decide +kernel
theorem dM_times_1 : decode cM_times 1 = .ok (.lstore_n 1, 1) := by decide +kernel
theorem dM_times_2 : decode cM_times 2 = .ok (.iconst 0, 1) := by decide +kernel
theorem dM_times_3 : decode cM_times 3 = .ok (.istore_n 3, 1) := by decide +kernel
theorem dM_times_4 : decode cM_times 4 = .ok (.iload_n 3, 1) := by decide +kernel
theorem dM_times_5 : decode cM_times 5 = .ok (.iconst 4, 1) := by decide +kernel
theorem dM_times_6 : decode cM_times 6 = .ok (.if_icmp .ge 135, 3) := by decide +kernel
theorem dM_times_9 : decode cM_times 9 = .ok (.aload_n 0, 1) := by decide +kernel
theorem dM_times_10 : decode cM_times 10 = .ok (.iload_n 3, 1) := by decide +kernel
theorem dM_times_11 : decode cM_times 11 = .ok (.invokevirtual 77, 3) := by decide +kernel
theorem dM_times_14 : decode cM_times 14 = .ok (.istore 4, 2) := by decide +kernel
theorem dM_times_16 : decode cM_times 16 = .ok (.iload 4, 2) := by decide +kernel
theorem dM_times_18 : decode cM_times 18 = .ok (.ifCond .ge 16, 3) := by decide +kernel
theorem dM_times_21 : decode cM_times 21 = .ok (.aload_n 0, 1) := by decide +kernel
theorem dM_times_22 : decode cM_times 22 = .ok (.getfield 20, 3) := by decide +kernel
theorem dM_times_25 : decode cM_times 25 = .ok (.iload_n 3, 1) := by decide +kernel
theorem dM_times_26 : decode cM_times 26 = .ok (.laload, 1) := by decide +kernel
theorem dM_times_27 : decode cM_times 27 = .ok (.lconst 0, 1) := by decide +kernel
theorem dM_times_28 : decode cM_times 28 = .ok (.lcmp, 1) := by decide +kernel
theorem dM_times_29 : decode cM_times 29 = .ok (.ifCond .eq 5, 3) := by decide +kernel
theorem dM_times_32 : decode cM_times 32 = .ok (.lconst 0, 1) := by decide +kernel
theorem dM_times_33 : decode cM_times 33 = .ok (.lreturn, 1) := by decide +kernel
theorem dM_times_34 : decode cM_times 34 = .ok (.iload 4, 2) := by decide +kernel
theorem dM_times_36 : decode cM_times 36 = .ok (.ifCond .lt 99, 3) := by decide +kernel
theorem dM_times_39 : decode cM_times 39 = .ok (.aload_n 0, 1) := by decide +kernel
theorem dM_times_40 : decode cM_times 40 = .ok (.getfield 13, 3) := by decide +kernel
theorem dM_times_43 : decode cM_times 43 = .ok (.iconst 4, 1) := by decide +kernel
theorem dM_times_44 : decode cM_times 44 = .ok (.iload 4, 2) := by decide +kernel
theorem dM_times_46 : decode cM_times 46 = .ok (.imul, 1) := by decide +kernel
theorem dM_times_47 : decode cM_times 47 = .ok (.iload_n 3, 1) := by decide +kernel
theorem dM_times_48 : decode cM_times 48 = .ok (.iadd, 1) := by decide +kernel
theorem dM_times_49 : decode cM_times 49 = .ok (.laload, 1) := by decide +kernel
theorem dM_times_50 : decode cM_times 50 = .ok (.lstore 5, 2) := by decide +kernel
theorem dM_times_52 : decode cM_times 52 = .ok (.lload 5, 2) := by decide +kernel
theorem dM_times_54 : decode cM_times 54 = .ok (.lload 5, 2) := by decide +kernel
theorem dM_times_56 : decode cM_times 56 = .ok (.aload_n 0, 1) := by decide +kernel
theorem dM_times_57 : decode cM_times 57 = .ok (.getfield 20, 3) := by decide +kernel
theorem dM_times_60 : decode cM_times 60 = .ok (.iload_n 3, 1) := by decide +kernel
theorem dM_times_61 : decode cM_times 61 = .ok (.laload, 1) := by decide +kernel
theorem dM_times_62 : decode cM_times 62 = .ok (.invokestatic 104, 3) := by decide +kernel
theorem dM_times_65 : decode cM_times 65 = .ok (.ldiv, 1) := by decide +kernel
theorem dM_times_66 : decode cM_times 66 = .ok (.lstore 7, 2) := by decide +kernel
theorem dM_times_68 : decode cM_times 68 = .ok (.lload_n 1, 1) := by decide +kernel
theorem dM_times_69 : decode cM_times 69 = .ok (.lload 7, 2) := by decide +kernel
theorem dM_times_71 : decode cM_times 71 = .ok (.lmul, 1) := by decide +kernel
theorem dM_times_72 : decode cM_times 72 = .ok (.lstore_n 1, 1) := by decide +kernel
theorem dM_times_73 : decode cM_times 73 = .ok (.aload_n 0, 1) := by decide +kernel
theorem dM_times_74 : decode cM_times 74 = .ok (.getfield 20, 3) := by decide +kernel
theorem dM_times_77 : decode cM_times 77 = .ok (.iload_n 3, 1) := by decide +kernel
theorem dM_times_78 : decode cM_times 78 = .ok (.laload, 1) := by decide +kernel
theorem dM_times_79 : decode cM_times 79 = .ok (.lload 7, 2) := by decide +kernel
theorem dM_times_81 : decode cM_times 81 = .ok (.lmul, 1) := by decide +kernel
theorem dM_times_82 : decode cM_times 82 = .ok (.lload 5, 2) := by decide +kernel
theorem dM_times_84 : decode cM_times 84 = .ok (.ldiv, 1) := by decide +kernel
theorem dM_times_85 : decode cM_times 85 = .ok (.lstore 9, 2) := by decide +kernel
theorem dM_times_87 : decode cM_times 87 = .ok (.iconst 0, 1) := by decide +kernel
theorem dM_times_88 : decode cM_times 88 = .ok (.istore 11, 2) := by decide +kernel
theorem dM_times_90 : decode cM_times 90 = .ok (.iload 11, 2) := by decide +kernel
theorem dM_times_92 : decode cM_times 92 = .ok (.iconst 4, 1) := by decide +kernel
theorem dM_times_93 : decode cM_times 93 = .ok (.if_icmp .ge 42, 3) := by decide +kernel
theorem dM_times_96 : decode cM_times 96 = .ok (.aload_n 0, 1) := by decide +kernel
theorem dM_times_97 : decode cM_times 97 = .ok (.getfield 20, 3) := by decide +kernel
theorem dM_times_100 : decode cM_times 100 = .ok (.iload 11, 2) := by decide +kernel
theorem dM_times_102 : decode cM_times 102 = .ok (.aload_n 0, 1) := by decide +kernel
theorem dM_times_103 : decode cM_times 103 = .ok (.getfield 20, 3) := by decide +kernel
theorem dM_times_106 : decode cM_times 106 = .ok (.iload 11, 2) := by decide +kernel
theorem dM_times_108 : decode cM_times 108 = .ok (.laload, 1) := by decide +kernel
theorem dM_times_109 : decode cM_times 109 = .ok (.lload 7, 2) := by decide +kernel
theorem dM_times_111 : decode cM_times 111 = .ok (.lmul, 1) := by decide +kernel
theorem dM_times_112 : decode cM_times 112 = .ok (.lload 9, 2) := by decide +kernel
theorem dM_times_114 : decode cM_times 114 = .ok (.aload_n 0, 1) := by decide +kernel
theorem dM_times_115 : decode cM_times 115 = .ok (.getfield 13, 3) := by decide +kernel
theorem dM_times_118 : decode cM_times 118 = .ok (.iconst 4, 1) := by decide +kernel
theorem dM_times_119 : decode cM_times 119 = .ok (.iload 4, 2) := by decide +kernel
theorem dM_times_121 : decode cM_times 121 = .ok (.imul, 1) := by decide +kernel
theorem dM_times_122 : decode cM_times 122 = .ok (.iload 11, 2) := by decide +kernel
theorem dM_times_124 : decode cM_times 124 = .ok (.iadd, 1) := by decide +kernel
theorem dM_times_125 : decode cM_times 125 = .ok (.laload, 1) := by decide +kernel
theorem dM_times_126 : decode cM_times 126 = .ok (.lmul, 1) := by decide +kernel
theorem dM_times_127 : decode cM_times 127 = .ok (.lsub, 1) := by decide +kernel
theorem dM_times_128 : decode cM_times 128 = .ok (.lastore, 1) := by decide +kernel
theorem dM_times_129 : decode cM_times 129 = .ok (.iinc 11 1, 3) := by decide +kernel
theorem dM_times_132 : decode cM_times 132 = .ok (.goto (-42), 3) := by decide +kernel
theorem dM_times_135 : decode cM_times 135 = .ok (.iinc 3 1, 3) := by decide +kernel
theorem dM_times_138 : decode cM_times 138 = .ok (.goto (-134), 3) := by decide +kernel
theorem dM_times_141 : decode cM_times 141 = .ok (.lload_n 1, 1) := by decide +kernel
theorem dM_times_142 : decode cM_times 142 = .ok (.lreturn, 1) := by decide +kernel
theorem cb_M_common_M_times : CB yM_common cM_common 10 (some .long) rm_M_common rm_M_times 2 := ⟨wd652, wd8, by decide +kernel, rfl, rfl, by decide⟩
theorem cb_M_rowAt_M_times : CB yM_rowAt cM_rowAt 4 (some .int) rm_M_rowAt rm_M_times 1 := ⟨wd606, wd8, by decide +kernel, rfl, rfl, by decide⟩
noncomputable def lM_times_90 (F : Nat) (v1 : Int64) (v3 : Int32) (v4 : Int32) (v7 : Int64) (v9 : Int64) : Nat → Int32 → MS → Option (MS)
  | 0, _, _ => none
  | n + 1, v11, τ => if (4 : Int32) ≤ v11 then some (τ) else gd (vp_in v11 4) (gd (vp_in (((4 : Int32) * v4) + v11) 16) (gd (vp_in v11 4) (lM_times_90 F v1 v3 v4 v7 v9 n (v11 + 1) (s_fresh τ (vp_updL (m_fresh τ) v11.toNatClampNeg ((((m_fresh τ) v11.toNatClampNeg) * v7) - (v9 * ((m_row τ) (((4 : Int32) * v4) + v11).toNatClampNeg))))))))
set_option maxHeartbeats 4000000 in
set_option maxRecDepth 100000 in
theorem lM_times_90_ok {g : Gm} {κ : ctx} (G : OK g κ RM cM_times 12 (some .long) rm_M_times) (X : Nat → va_E) (F : Nat) (v1 : Int64) (v3 : Int32) (v4 : Int32) (v7 : Int64) (v9 : Int64) : ∀ (n : Nat) (v11 : Int32) (τ : MS) (out : MS), lM_times_90 F v1 v3 v4 v7 v9 n v11 τ = some out → (J g κ 12 135 [(0, .ref (κ.1 0)), (1, .long v1), (3, .int v3)] [] (LM κ out X)) → J g κ 12 90 [(0, .ref (κ.1 0)), (1, .long v1), (3, .int v3), (4, .int v4), (7, .long v7), (9, .long v9), (11, .int v11)] [] (LM κ τ X) := by
  intro n
  induction n with
  | zero =>
    intro v11 τ
    intro out h
    rw [lM_times_90] at h
    cases h
  | succ n ih =>
    intro v11 τ out h K
    rw [lM_times_90] at h
    refine w_iload (pc := 90) (q := 6) G dM_times_90 rfl ?_
    refine w_iconst (pc := 92) (v := (4 : Int32)) G dM_times_92 (by decide) ?_
    refine w_icmp_ge (pc := 93) (tgt := 135) G dM_times_93 (by decide) (fun c93 => ?_) (fun c93 => ?_)
    · have h := if_t c93 h
      obtain rfl := Option.some.inj h
      refine w_sub (lv' := [(0, .ref (κ.1 0)), (1, .long v1), (3, .int v3)]) [0, 1, 2] rfl ?_
      exact K
    · have h := if_f c93 h
      refine w_aload_n (pc := 96) (q := 0) G dM_times_96 rfl rfl ?_
      refine w_get (pc := 97) (v := .ref (κ.1 4)) (fs := mfl κ τ) G 0 (by decide) rfl rfl wsM_ok 7 (by decide) wd497 rfl dM_times_97 ?_
      refine w_iload (pc := 100) (q := 6) G dM_times_100 rfl ?_
      refine w_aload_n (pc := 102) (q := 0) G dM_times_102 rfl rfl ?_
      refine w_get (pc := 103) (v := .ref (κ.1 4)) (fs := mfl κ τ) G 0 (by decide) rfl rfl wsM_ok 7 (by decide) wd497 rfl dM_times_103 ?_
      refine w_iload (pc := 106) (q := 6) G dM_times_106 rfl ?_
      obtain ⟨i108, h⟩ := gd_some h
      refine w_lald (pc := 108) (n := 4) (f := (m_fresh τ)) G 4 (by decide) rfl i108 dM_times_108 ?_
      refine w_lload (pc := 109) (q := 4) G dM_times_109 rfl ?_
      refine w_lmul (pc := 111) G dM_times_111 ?_
      refine w_lload (pc := 112) (q := 5) G dM_times_112 rfl ?_
      refine w_aload_n (pc := 114) (q := 0) G dM_times_114 rfl rfl ?_
      refine w_get (pc := 115) (v := .ref (κ.1 2)) (fs := mfl κ τ) G 0 (by decide) rfl rfl wsM_ok 5 (by decide) wd495 rfl dM_times_115 ?_
      refine w_iconst (pc := 118) (v := (4 : Int32)) G dM_times_118 (by decide) ?_
      refine w_iload (pc := 119) (q := 3) G dM_times_119 rfl ?_
      refine w_imul (pc := 121) G dM_times_121 ?_
      refine w_iload (pc := 122) (q := 6) G dM_times_122 rfl ?_
      refine w_iadd (pc := 124) G dM_times_124 ?_
      obtain ⟨i125, h⟩ := gd_some h
      refine w_lald (pc := 125) (n := 16) (f := (m_row τ)) G 2 (by decide) rfl i125 dM_times_125 ?_
      refine w_lmul (pc := 126) G dM_times_126 ?_
      refine w_lsub (pc := 127) G dM_times_127 ?_
      obtain ⟨i128, h⟩ := gd_some h
      refine w_last (pc := 128) (n := 4) (f := (m_fresh τ)) (L1 := (LM κ (s_fresh τ (vp_updL (m_fresh τ) v11.toNatClampNeg ((((m_fresh τ) v11.toNatClampNeg) * v7) - (v9 * ((m_row τ) (((4 : Int32) * v4) + v11).toNatClampNeg))))) X)) G 4 (by decide) rfl i128 dM_times_128 (LM_fresh κ τ X _) ?_
      refine w_iinc (pc := 129) (q0 := 6) (v := (v11 + 1)) (lv' := [(11, .int (v11 + 1)), (0, .ref (κ.1 0)), (1, .long v1), (3, .int v3), (4, .int v4), (7, .long v7), (9, .long v9)]) G dM_times_129 rfl rfl (by decide) rfl ?_
      refine w_goto (pc := 132) (tgt := 90) G dM_times_132 (by decide) ?_
      refine w_sub (lv' := [(0, .ref (κ.1 0)), (1, .long v1), (3, .int v3), (4, .int v4), (7, .long v7), (9, .long v9), (11, .int (v11 + 1))]) [1, 2, 3, 4, 5, 6, 0] rfl ?_
      exact ih (v11 + 1) (s_fresh τ (vp_updL (m_fresh τ) v11.toNatClampNeg ((((m_fresh τ) v11.toNatClampNeg) * v7) - (v9 * ((m_row τ) (((4 : Int32) * v4) + v11).toNatClampNeg))))) out h K
noncomputable def lM_times_4 (F : Nat)  : Nat → Int64 → Int32 → MS → Option ((Int64 × MS) ⊕ (Int64 × MS))
  | 0, _, _, _ => none
  | n + 1, v1, v3, τ => if (4 : Int32) ≤ v3 then some (.inl (v1, τ)) else (M_rowAt F τ v3).bind (fun r11 => if 0 ≤ r11 then if r11 < 0 then lM_times_4 F  n v1 (v3 + 1) τ else gd (vp_in (((4 : Int32) * r11) + v3) 16) (gd (vp_in v3 4) ((M_common F ((m_row τ) (((4 : Int32) * r11) + v3).toNatClampNeg) ((m_fresh τ) v3.toNatClampNeg)).bind (fun r62 => gd (¬ r62 = 0) (gd (vp_in v3 4) (gd (¬ ((m_row τ) (((4 : Int32) * r11) + v3).toNatClampNeg) = 0) ((lM_times_90 F (v1 * (((m_row τ) (((4 : Int32) * r11) + v3).toNatClampNeg) / r62)) v3 r11 (((m_row τ) (((4 : Int32) * r11) + v3).toNatClampNeg) / r62) ((((m_fresh τ) v3.toNatClampNeg) * (((m_row τ) (((4 : Int32) * r11) + v3).toNatClampNeg) / r62)) / ((m_row τ) (((4 : Int32) * r11) + v3).toNatClampNeg)) F (0 : Int32) τ).bind (fun o90_10 => lM_times_4 F  n (v1 * (((m_row τ) (((4 : Int32) * r11) + v3).toNatClampNeg) / r62)) (v3 + 1) o90_10))))))) else gd (vp_in v3 4) (if ((m_fresh τ) v3.toNatClampNeg) = (0 : Int64) then if r11 < 0 then lM_times_4 F  n v1 (v3 + 1) τ else gd (vp_in (((4 : Int32) * r11) + v3) 16) (gd (vp_in v3 4) ((M_common F ((m_row τ) (((4 : Int32) * r11) + v3).toNatClampNeg) ((m_fresh τ) v3.toNatClampNeg)).bind (fun r62 => gd (¬ r62 = 0) (gd (vp_in v3 4) (gd (¬ ((m_row τ) (((4 : Int32) * r11) + v3).toNatClampNeg) = 0) ((lM_times_90 F (v1 * (((m_row τ) (((4 : Int32) * r11) + v3).toNatClampNeg) / r62)) v3 r11 (((m_row τ) (((4 : Int32) * r11) + v3).toNatClampNeg) / r62) ((((m_fresh τ) v3.toNatClampNeg) * (((m_row τ) (((4 : Int32) * r11) + v3).toNatClampNeg) / r62)) / ((m_row τ) (((4 : Int32) * r11) + v3).toNatClampNeg)) F (0 : Int32) τ).bind (fun o90_14 => lM_times_4 F  n (v1 * (((m_row τ) (((4 : Int32) * r11) + v3).toNatClampNeg) / r62)) (v3 + 1) o90_14))))))) else some (.inr ((0 : Int64), τ))))
set_option maxHeartbeats 4000000 in
set_option maxRecDepth 100000 in
theorem lM_times_4_ok {g : Gm} {κ : ctx} (G : OK g κ RM cM_times 12 (some .long) rm_M_times) (X : Nat → va_E) (F : Nat)  : ∀ (n : Nat) (v1 : Int64) (v3 : Int32) (τ : MS) (out : (Int64 × MS) ⊕ (Int64 × MS)), lM_times_4 F  n v1 v3 τ = some out → (∀ e, out = .inl e → J g κ 12 141 [(1, .long e.1)] [] (LM κ e.2 X)) → (∀ r, out = .inr r → Fn g κ (some (.long r.1)) (LM κ r.2 X)) → J g κ 12 4 [(0, .ref (κ.1 0)), (1, .long v1), (3, .int v3)] [] (LM κ τ X) := by
  intro n
  induction n with
  | zero =>
    intro v1 v3 τ
    intro out h
    rw [lM_times_4] at h
    cases h
  | succ n ih =>
    intro v1 v3 τ out h K K2
    rw [lM_times_4] at h
    refine w_iload_n (pc := 4) (q := 2) G dM_times_4 rfl rfl ?_
    refine w_iconst (pc := 5) (v := (4 : Int32)) G dM_times_5 (by decide) ?_
    refine w_icmp_ge (pc := 6) (tgt := 141) G dM_times_6 (by decide) (fun c6 => ?_) (fun c6 => ?_)
    · have h := if_t c6 h
      obtain rfl := Option.some.inj h
      refine w_sub (lv' := [(1, .long v1)]) [1] rfl ?_
      exact K _ rfl
    · have h := if_f c6 h
      refine w_aload_n (pc := 9) (q := 0) G dM_times_9 rfl rfl ?_
      refine w_iload_n (pc := 10) (q := 2) G dM_times_10 rfl rfl ?_
      obtain ⟨r11, e11, h⟩ := bd h
      refine w_callV (pc := 11) (av := [.int v3]) (rest := []) (v := some (.int r11)) (L' := (LM κ τ X)) (T := TM) (fs := mfl κ τ) G 0 0 27 (by decide) rfl rfl cb_M_rowAt_M_times wd605 ws22 wd603 (met_M_rowAt κ X F τ v3 e11) rfl rfl rfl (Nat.le_of_ble_eq_true rfl) dM_times_11 ?_
      refine w_istore (pc := 14) (lv' := [(4, .int r11), (0, .ref (κ.1 0)), (1, .long v1), (3, .int v3)]) G dM_times_14 (by decide) rfl ?_
      refine w_iload (pc := 16) (q := 0) G dM_times_16 rfl ?_
      refine w_if_ge (pc := 18) (tgt := 34) G dM_times_18 (by decide) (fun c18 => ?_) (fun c18 => ?_)
      · have h := if_t c18 h
        refine w_iload (pc := 34) (q := 0) G dM_times_34 rfl ?_
        refine w_if_lt (pc := 36) (tgt := 135) G dM_times_36 (by decide) (fun c36 => ?_) (fun c36 => ?_)
        · have h := if_t c36 h
          refine w_iinc (pc := 135) (q0 := 3) (v := (v3 + 1)) (lv' := [(3, .int (v3 + 1)), (4, .int r11), (0, .ref (κ.1 0)), (1, .long v1)]) G dM_times_135 rfl rfl (by decide) rfl ?_
          refine w_goto (pc := 138) (tgt := 4) G dM_times_138 (by decide) ?_
          refine w_sub (lv' := [(0, .ref (κ.1 0)), (1, .long v1), (3, .int (v3 + 1))]) [2, 3, 0] rfl ?_
          exact ih v1 (v3 + 1) τ out h K K2
        · have h := if_f c36 h
          refine w_aload_n (pc := 39) (q := 1) G dM_times_39 rfl rfl ?_
          refine w_get (pc := 40) (v := .ref (κ.1 2)) (fs := mfl κ τ) G 0 (by decide) rfl rfl wsM_ok 5 (by decide) wd495 rfl dM_times_40 ?_
          refine w_iconst (pc := 43) (v := (4 : Int32)) G dM_times_43 (by decide) ?_
          refine w_iload (pc := 44) (q := 0) G dM_times_44 rfl ?_
          refine w_imul (pc := 46) G dM_times_46 ?_
          refine w_iload_n (pc := 47) (q := 3) G dM_times_47 rfl rfl ?_
          refine w_iadd (pc := 48) G dM_times_48 ?_
          obtain ⟨i49, h⟩ := gd_some h
          refine w_lald (pc := 49) (n := 16) (f := (m_row τ)) G 2 (by decide) rfl i49 dM_times_49 ?_
          refine w_lstore (pc := 50) (lv' := [(5, .long ((m_row τ) (((4 : Int32) * r11) + v3).toNatClampNeg)), (4, .int r11), (0, .ref (κ.1 0)), (1, .long v1), (3, .int v3)]) G dM_times_50 (by decide) rfl ?_
          refine w_lload (pc := 52) (q := 0) G dM_times_52 rfl ?_
          refine w_lload (pc := 54) (q := 0) G dM_times_54 rfl ?_
          refine w_aload_n (pc := 56) (q := 2) G dM_times_56 rfl rfl ?_
          refine w_get (pc := 57) (v := .ref (κ.1 4)) (fs := mfl κ τ) G 0 (by decide) rfl rfl wsM_ok 7 (by decide) wd497 rfl dM_times_57 ?_
          refine w_iload_n (pc := 60) (q := 4) G dM_times_60 rfl rfl ?_
          obtain ⟨i61, h⟩ := gd_some h
          refine w_lald (pc := 61) (n := 4) (f := (m_fresh τ)) G 4 (by decide) rfl i61 dM_times_61 ?_
          obtain ⟨r62, e62, h⟩ := bd h
          refine w_callS (pc := 62) (av := [.long ((m_row τ) (((4 : Int32) * r11) + v3).toNatClampNeg), .long ((m_fresh τ) v3.toNatClampNeg)]) (rest := [.long ((m_row τ) (((4 : Int32) * r11) + v3).toNatClampNeg)]) (v := some (.long r62)) (L' := (LM κ τ X)) G cb_M_common_M_times wd651 wd650 (met_M_common κ (LM κ τ X) F ((m_row τ) (((4 : Int32) * r11) + v3).toNatClampNeg) ((m_fresh τ) v3.toNatClampNeg) e62) rfl rfl rfl (Nat.le_of_ble_eq_true rfl) dM_times_62 ?_
          obtain ⟨z65, h⟩ := gd_some h
          refine w_ldiv (pc := 65) G dM_times_65 z65 ?_
          refine w_lstore (pc := 66) (lv' := [(7, .long (((m_row τ) (((4 : Int32) * r11) + v3).toNatClampNeg) / r62)), (5, .long ((m_row τ) (((4 : Int32) * r11) + v3).toNatClampNeg)), (4, .int r11), (0, .ref (κ.1 0)), (1, .long v1), (3, .int v3)]) G dM_times_66 (by decide) rfl ?_
          refine w_lload_n (pc := 68) (q := 4) G dM_times_68 rfl rfl ?_
          refine w_lload (pc := 69) (q := 0) G dM_times_69 rfl ?_
          refine w_lmul (pc := 71) G dM_times_71 ?_
          refine w_lstore_n (pc := 72) (lv' := [(1, .long (v1 * (((m_row τ) (((4 : Int32) * r11) + v3).toNatClampNeg) / r62))), (7, .long (((m_row τ) (((4 : Int32) * r11) + v3).toNatClampNeg) / r62)), (5, .long ((m_row τ) (((4 : Int32) * r11) + v3).toNatClampNeg)), (4, .int r11), (0, .ref (κ.1 0)), (3, .int v3)]) G dM_times_72 rfl (by decide) rfl ?_
          refine w_aload_n (pc := 73) (q := 4) G dM_times_73 rfl rfl ?_
          refine w_get (pc := 74) (v := .ref (κ.1 4)) (fs := mfl κ τ) G 0 (by decide) rfl rfl wsM_ok 7 (by decide) wd497 rfl dM_times_74 ?_
          refine w_iload_n (pc := 77) (q := 5) G dM_times_77 rfl rfl ?_
          obtain ⟨i78, h⟩ := gd_some h
          refine w_lald (pc := 78) (n := 4) (f := (m_fresh τ)) G 4 (by decide) rfl i78 dM_times_78 ?_
          refine w_lload (pc := 79) (q := 1) G dM_times_79 rfl ?_
          refine w_lmul (pc := 81) G dM_times_81 ?_
          refine w_lload (pc := 82) (q := 2) G dM_times_82 rfl ?_
          obtain ⟨z84, h⟩ := gd_some h
          refine w_ldiv (pc := 84) G dM_times_84 z84 ?_
          refine w_lstore (pc := 85) (lv' := [(9, .long ((((m_fresh τ) v3.toNatClampNeg) * (((m_row τ) (((4 : Int32) * r11) + v3).toNatClampNeg) / r62)) / ((m_row τ) (((4 : Int32) * r11) + v3).toNatClampNeg))), (1, .long (v1 * (((m_row τ) (((4 : Int32) * r11) + v3).toNatClampNeg) / r62))), (7, .long (((m_row τ) (((4 : Int32) * r11) + v3).toNatClampNeg) / r62)), (5, .long ((m_row τ) (((4 : Int32) * r11) + v3).toNatClampNeg)), (4, .int r11), (0, .ref (κ.1 0)), (3, .int v3)]) G dM_times_85 (by decide) rfl ?_
          refine w_iconst (pc := 87) (v := (0 : Int32)) G dM_times_87 (by decide) ?_
          refine w_istore (pc := 88) (lv' := [(11, .int (0 : Int32)), (9, .long ((((m_fresh τ) v3.toNatClampNeg) * (((m_row τ) (((4 : Int32) * r11) + v3).toNatClampNeg) / r62)) / ((m_row τ) (((4 : Int32) * r11) + v3).toNatClampNeg))), (1, .long (v1 * (((m_row τ) (((4 : Int32) * r11) + v3).toNatClampNeg) / r62))), (7, .long (((m_row τ) (((4 : Int32) * r11) + v3).toNatClampNeg) / r62)), (5, .long ((m_row τ) (((4 : Int32) * r11) + v3).toNatClampNeg)), (4, .int r11), (0, .ref (κ.1 0)), (3, .int v3)]) G dM_times_88 (by decide) rfl ?_
          refine w_sub (lv' := [(0, .ref (κ.1 0)), (1, .long (v1 * (((m_row τ) (((4 : Int32) * r11) + v3).toNatClampNeg) / r62))), (3, .int v3), (4, .int r11), (7, .long (((m_row τ) (((4 : Int32) * r11) + v3).toNatClampNeg) / r62)), (9, .long ((((m_fresh τ) v3.toNatClampNeg) * (((m_row τ) (((4 : Int32) * r11) + v3).toNatClampNeg) / r62)) / ((m_row τ) (((4 : Int32) * r11) + v3).toNatClampNeg))), (11, .int (0 : Int32))]) [6, 2, 7, 5, 3, 1, 0] rfl ?_
          obtain ⟨o90_10, eo90_10, h⟩ := bd h
          refine lM_times_90_ok G X F (v1 * (((m_row τ) (((4 : Int32) * r11) + v3).toNatClampNeg) / r62)) v3 r11 (((m_row τ) (((4 : Int32) * r11) + v3).toNatClampNeg) / r62) ((((m_fresh τ) v3.toNatClampNeg) * (((m_row τ) (((4 : Int32) * r11) + v3).toNatClampNeg) / r62)) / ((m_row τ) (((4 : Int32) * r11) + v3).toNatClampNeg)) F (0 : Int32) τ o90_10 eo90_10 ?_
          refine w_iinc (pc := 135) (q0 := 2) (v := (v3 + 1)) (lv' := [(3, .int (v3 + 1)), (0, .ref (κ.1 0)), (1, .long (v1 * (((m_row τ) (((4 : Int32) * r11) + v3).toNatClampNeg) / r62)))]) G dM_times_135 rfl rfl (by decide) rfl ?_
          refine w_goto (pc := 138) (tgt := 4) G dM_times_138 (by decide) ?_
          refine w_sub (lv' := [(0, .ref (κ.1 0)), (1, .long (v1 * (((m_row τ) (((4 : Int32) * r11) + v3).toNatClampNeg) / r62))), (3, .int (v3 + 1))]) [1, 2, 0] rfl ?_
          exact ih (v1 * (((m_row τ) (((4 : Int32) * r11) + v3).toNatClampNeg) / r62)) (v3 + 1) o90_10 out h K K2
      · have h := if_f c18 h
        refine w_aload_n (pc := 21) (q := 1) G dM_times_21 rfl rfl ?_
        refine w_get (pc := 22) (v := .ref (κ.1 4)) (fs := mfl κ τ) G 0 (by decide) rfl rfl wsM_ok 7 (by decide) wd497 rfl dM_times_22 ?_
        refine w_iload_n (pc := 25) (q := 3) G dM_times_25 rfl rfl ?_
        obtain ⟨i26, h⟩ := gd_some h
        refine w_lald (pc := 26) (n := 4) (f := (m_fresh τ)) G 4 (by decide) rfl i26 dM_times_26 ?_
        refine w_lconst (pc := 27) (v := (0 : Int64)) G dM_times_27 (by decide) ?_
        refine w_lc_eq (pc := 28) (tgt := 34) G dM_times_28 dM_times_29 (by decide) (fun c28 => ?_) (fun c28 => ?_)
        · have h := if_t c28 h
          refine w_iload (pc := 34) (q := 0) G dM_times_34 rfl ?_
          refine w_if_lt (pc := 36) (tgt := 135) G dM_times_36 (by decide) (fun c36 => ?_) (fun c36 => ?_)
          · have h := if_t c36 h
            refine w_iinc (pc := 135) (q0 := 3) (v := (v3 + 1)) (lv' := [(3, .int (v3 + 1)), (4, .int r11), (0, .ref (κ.1 0)), (1, .long v1)]) G dM_times_135 rfl rfl (by decide) rfl ?_
            refine w_goto (pc := 138) (tgt := 4) G dM_times_138 (by decide) ?_
            refine w_sub (lv' := [(0, .ref (κ.1 0)), (1, .long v1), (3, .int (v3 + 1))]) [2, 3, 0] rfl ?_
            exact ih v1 (v3 + 1) τ out h K K2
          · have h := if_f c36 h
            refine w_aload_n (pc := 39) (q := 1) G dM_times_39 rfl rfl ?_
            refine w_get (pc := 40) (v := .ref (κ.1 2)) (fs := mfl κ τ) G 0 (by decide) rfl rfl wsM_ok 5 (by decide) wd495 rfl dM_times_40 ?_
            refine w_iconst (pc := 43) (v := (4 : Int32)) G dM_times_43 (by decide) ?_
            refine w_iload (pc := 44) (q := 0) G dM_times_44 rfl ?_
            refine w_imul (pc := 46) G dM_times_46 ?_
            refine w_iload_n (pc := 47) (q := 3) G dM_times_47 rfl rfl ?_
            refine w_iadd (pc := 48) G dM_times_48 ?_
            obtain ⟨i49, h⟩ := gd_some h
            refine w_lald (pc := 49) (n := 16) (f := (m_row τ)) G 2 (by decide) rfl i49 dM_times_49 ?_
            refine w_lstore (pc := 50) (lv' := [(5, .long ((m_row τ) (((4 : Int32) * r11) + v3).toNatClampNeg)), (4, .int r11), (0, .ref (κ.1 0)), (1, .long v1), (3, .int v3)]) G dM_times_50 (by decide) rfl ?_
            refine w_lload (pc := 52) (q := 0) G dM_times_52 rfl ?_
            refine w_lload (pc := 54) (q := 0) G dM_times_54 rfl ?_
            refine w_aload_n (pc := 56) (q := 2) G dM_times_56 rfl rfl ?_
            refine w_get (pc := 57) (v := .ref (κ.1 4)) (fs := mfl κ τ) G 0 (by decide) rfl rfl wsM_ok 7 (by decide) wd497 rfl dM_times_57 ?_
            refine w_iload_n (pc := 60) (q := 4) G dM_times_60 rfl rfl ?_
            obtain ⟨i61, h⟩ := gd_some h
            refine w_lald (pc := 61) (n := 4) (f := (m_fresh τ)) G 4 (by decide) rfl i61 dM_times_61 ?_
            obtain ⟨r62, e62, h⟩ := bd h
            refine w_callS (pc := 62) (av := [.long ((m_row τ) (((4 : Int32) * r11) + v3).toNatClampNeg), .long ((m_fresh τ) v3.toNatClampNeg)]) (rest := [.long ((m_row τ) (((4 : Int32) * r11) + v3).toNatClampNeg)]) (v := some (.long r62)) (L' := (LM κ τ X)) G cb_M_common_M_times wd651 wd650 (met_M_common κ (LM κ τ X) F ((m_row τ) (((4 : Int32) * r11) + v3).toNatClampNeg) ((m_fresh τ) v3.toNatClampNeg) e62) rfl rfl rfl (Nat.le_of_ble_eq_true rfl) dM_times_62 ?_
            obtain ⟨z65, h⟩ := gd_some h
            refine w_ldiv (pc := 65) G dM_times_65 z65 ?_
            refine w_lstore (pc := 66) (lv' := [(7, .long (((m_row τ) (((4 : Int32) * r11) + v3).toNatClampNeg) / r62)), (5, .long ((m_row τ) (((4 : Int32) * r11) + v3).toNatClampNeg)), (4, .int r11), (0, .ref (κ.1 0)), (1, .long v1), (3, .int v3)]) G dM_times_66 (by decide) rfl ?_
            refine w_lload_n (pc := 68) (q := 4) G dM_times_68 rfl rfl ?_
            refine w_lload (pc := 69) (q := 0) G dM_times_69 rfl ?_
            refine w_lmul (pc := 71) G dM_times_71 ?_
            refine w_lstore_n (pc := 72) (lv' := [(1, .long (v1 * (((m_row τ) (((4 : Int32) * r11) + v3).toNatClampNeg) / r62))), (7, .long (((m_row τ) (((4 : Int32) * r11) + v3).toNatClampNeg) / r62)), (5, .long ((m_row τ) (((4 : Int32) * r11) + v3).toNatClampNeg)), (4, .int r11), (0, .ref (κ.1 0)), (3, .int v3)]) G dM_times_72 rfl (by decide) rfl ?_
            refine w_aload_n (pc := 73) (q := 4) G dM_times_73 rfl rfl ?_
            refine w_get (pc := 74) (v := .ref (κ.1 4)) (fs := mfl κ τ) G 0 (by decide) rfl rfl wsM_ok 7 (by decide) wd497 rfl dM_times_74 ?_
            refine w_iload_n (pc := 77) (q := 5) G dM_times_77 rfl rfl ?_
            obtain ⟨i78, h⟩ := gd_some h
            refine w_lald (pc := 78) (n := 4) (f := (m_fresh τ)) G 4 (by decide) rfl i78 dM_times_78 ?_
            refine w_lload (pc := 79) (q := 1) G dM_times_79 rfl ?_
            refine w_lmul (pc := 81) G dM_times_81 ?_
            refine w_lload (pc := 82) (q := 2) G dM_times_82 rfl ?_
            obtain ⟨z84, h⟩ := gd_some h
            refine w_ldiv (pc := 84) G dM_times_84 z84 ?_
            refine w_lstore (pc := 85) (lv' := [(9, .long ((((m_fresh τ) v3.toNatClampNeg) * (((m_row τ) (((4 : Int32) * r11) + v3).toNatClampNeg) / r62)) / ((m_row τ) (((4 : Int32) * r11) + v3).toNatClampNeg))), (1, .long (v1 * (((m_row τ) (((4 : Int32) * r11) + v3).toNatClampNeg) / r62))), (7, .long (((m_row τ) (((4 : Int32) * r11) + v3).toNatClampNeg) / r62)), (5, .long ((m_row τ) (((4 : Int32) * r11) + v3).toNatClampNeg)), (4, .int r11), (0, .ref (κ.1 0)), (3, .int v3)]) G dM_times_85 (by decide) rfl ?_
            refine w_iconst (pc := 87) (v := (0 : Int32)) G dM_times_87 (by decide) ?_
            refine w_istore (pc := 88) (lv' := [(11, .int (0 : Int32)), (9, .long ((((m_fresh τ) v3.toNatClampNeg) * (((m_row τ) (((4 : Int32) * r11) + v3).toNatClampNeg) / r62)) / ((m_row τ) (((4 : Int32) * r11) + v3).toNatClampNeg))), (1, .long (v1 * (((m_row τ) (((4 : Int32) * r11) + v3).toNatClampNeg) / r62))), (7, .long (((m_row τ) (((4 : Int32) * r11) + v3).toNatClampNeg) / r62)), (5, .long ((m_row τ) (((4 : Int32) * r11) + v3).toNatClampNeg)), (4, .int r11), (0, .ref (κ.1 0)), (3, .int v3)]) G dM_times_88 (by decide) rfl ?_
            refine w_sub (lv' := [(0, .ref (κ.1 0)), (1, .long (v1 * (((m_row τ) (((4 : Int32) * r11) + v3).toNatClampNeg) / r62))), (3, .int v3), (4, .int r11), (7, .long (((m_row τ) (((4 : Int32) * r11) + v3).toNatClampNeg) / r62)), (9, .long ((((m_fresh τ) v3.toNatClampNeg) * (((m_row τ) (((4 : Int32) * r11) + v3).toNatClampNeg) / r62)) / ((m_row τ) (((4 : Int32) * r11) + v3).toNatClampNeg))), (11, .int (0 : Int32))]) [6, 2, 7, 5, 3, 1, 0] rfl ?_
            obtain ⟨o90_14, eo90_14, h⟩ := bd h
            refine lM_times_90_ok G X F (v1 * (((m_row τ) (((4 : Int32) * r11) + v3).toNatClampNeg) / r62)) v3 r11 (((m_row τ) (((4 : Int32) * r11) + v3).toNatClampNeg) / r62) ((((m_fresh τ) v3.toNatClampNeg) * (((m_row τ) (((4 : Int32) * r11) + v3).toNatClampNeg) / r62)) / ((m_row τ) (((4 : Int32) * r11) + v3).toNatClampNeg)) F (0 : Int32) τ o90_14 eo90_14 ?_
            refine w_iinc (pc := 135) (q0 := 2) (v := (v3 + 1)) (lv' := [(3, .int (v3 + 1)), (0, .ref (κ.1 0)), (1, .long (v1 * (((m_row τ) (((4 : Int32) * r11) + v3).toNatClampNeg) / r62)))]) G dM_times_135 rfl rfl (by decide) rfl ?_
            refine w_goto (pc := 138) (tgt := 4) G dM_times_138 (by decide) ?_
            refine w_sub (lv' := [(0, .ref (κ.1 0)), (1, .long (v1 * (((m_row τ) (((4 : Int32) * r11) + v3).toNatClampNeg) / r62))), (3, .int (v3 + 1))]) [1, 2, 0] rfl ?_
            exact ih (v1 * (((m_row τ) (((4 : Int32) * r11) + v3).toNatClampNeg) / r62)) (v3 + 1) o90_14 out h K K2
        · have h := if_f c28 h
          refine w_lconst (pc := 32) (v := (0 : Int64)) G dM_times_32 (by decide) ?_
          obtain rfl := Option.some.inj h
          exact w_lret (pc := 33) G dM_times_33 (K2 _ rfl)
noncomputable def M_times (F : Nat) (τ : MS)  : Option (Int64 × MS) := (lM_times_4 F  F (1 : Int64) (0 : Int32) τ).bind (fun o4_15 => match o4_15 with | .inl o4_15 => some (o4_15.1, o4_15.2) | .inr o4_15 => some o4_15)
set_option maxHeartbeats 4000000 in
set_option maxRecDepth 100000 in
theorem met_M_times (κ : ctx) (X : Nat → va_E) (F : Nat) (τ : MS)  {out : Int64 × MS} (h : M_times F τ  = some out) : Mt yM_times cM_times 12 (some .long) rm_M_times κ [.ref (κ.1 0)] (LM κ τ X) (some (.long out.1)) (LM κ out.2 X) := by
  refine Mt.of (by decide) (Nat.le_of_ble_eq_true rfl) ?_
  intro g G Fh
  unfold M_times at h
  show J g κ 12 0 [(0, .ref (κ.1 0))] [] (LM κ τ X)
  refine w_lconst (pc := 0) (v := (1 : Int64)) G dM_times_0 (by decide) ?_
  refine w_lstore_n (pc := 1) (lv' := [(1, .long (1 : Int64)), (0, .ref (κ.1 0))]) G dM_times_1 rfl (by decide) rfl ?_
  refine w_iconst (pc := 2) (v := (0 : Int32)) G dM_times_2 (by decide) ?_
  refine w_istore_n (pc := 3) (lv' := [(3, .int (0 : Int32)), (1, .long (1 : Int64)), (0, .ref (κ.1 0))]) G dM_times_3 rfl (by decide) rfl ?_
  refine w_sub (lv' := [(0, .ref (κ.1 0)), (1, .long (1 : Int64)), (3, .int (0 : Int32))]) [2, 1, 0] rfl ?_
  obtain ⟨o4_15, eo4_15, h⟩ := bd h
  rcases o4_15 with o4_15 | o4_15
  · refine lM_times_4_ok G X F  F (1 : Int64) (0 : Int32) τ (.inl o4_15) eo4_15 (fun e he => ?_) (fun r he => by cases he)
    cases he
    dsimp only at h
    refine w_lload_n (pc := 141) (q := 0) G dM_times_141 rfl rfl ?_
    obtain rfl := Option.some.inj h
    exact w_lret (pc := 142) G dM_times_142 Fh
  · refine lM_times_4_ok G X F  F (1 : Int64) (0 : Int32) τ (.inr o4_15) eo4_15 (fun e he => by cases he) (fun r he => ?_)
    cases he
    dsimp only at h
    obtain rfl := Option.some.inj h
    exact Fh
def rm_M_spare : Room := { frames := 5, cells := 0, slots := 0, locals := 121 }
theorem dM_spare_0 : decode cM_spare 0 = .ok (.iload_n 1, 1) := by decide +kernel
theorem dM_spare_1 : decode cM_spare 1 = .ok (.ifCond .lt 11, 3) := by decide +kernel
theorem dM_spare_4 : decode cM_spare 4 = .ok (.iload_n 1, 1) := by decide +kernel
theorem dM_spare_5 : decode cM_spare 5 = .ok (.aload_n 0, 1) := by decide +kernel
theorem dM_spare_6 : decode cM_spare 6 = .ok (.getfield 67, 3) := by decide +kernel
theorem dM_spare_9 : decode cM_spare 9 = .ok (.if_icmp .lt 5, 3) := by decide +kernel
theorem dM_spare_12 : decode cM_spare 12 = .ok (.iconst 0, 1) := by decide +kernel
theorem dM_spare_13 : decode cM_spare 13 = .ok (.ireturn, 1) := by decide +kernel
theorem dM_spare_14 : decode cM_spare 14 = .ok (.aload_n 0, 1) := by decide +kernel
theorem dM_spare_15 : decode cM_spare 15 = .ok (.iload_n 1, 1) := by decide +kernel
theorem dM_spare_16 : decode cM_spare 16 = .ok (.invokevirtual 107, 3) := by decide +kernel
theorem dM_spare_19 : decode cM_spare 19 = .ok (.aload_n 0, 1) := by decide +kernel
theorem dM_spare_20 : decode cM_spare 20 = .ok (.aload_n 0, 1) := by decide +kernel
theorem dM_spare_21 : decode cM_spare 21 = .ok (.getfield 7, 3) := by decide +kernel
theorem dM_spare_24 : decode cM_spare 24 = .ok (.iconst 4, 1) := by decide +kernel
theorem dM_spare_25 : decode cM_spare 25 = .ok (.iload_n 1, 1) := by decide +kernel
theorem dM_spare_26 : decode cM_spare 26 = .ok (.imul, 1) := by decide +kernel
theorem dM_spare_27 : decode cM_spare 27 = .ok (.iaload, 1) := by decide +kernel
theorem dM_spare_28 : decode cM_spare 28 = .ok (.aload_n 0, 1) := by decide +kernel
theorem dM_spare_29 : decode cM_spare 29 = .ok (.getfield 7, 3) := by decide +kernel
theorem dM_spare_32 : decode cM_spare 32 = .ok (.iconst 4, 1) := by decide +kernel
theorem dM_spare_33 : decode cM_spare 33 = .ok (.iload_n 1, 1) := by decide +kernel
theorem dM_spare_34 : decode cM_spare 34 = .ok (.imul, 1) := by decide +kernel
theorem dM_spare_35 : decode cM_spare 35 = .ok (.iconst 1, 1) := by decide +kernel
theorem dM_spare_36 : decode cM_spare 36 = .ok (.iadd, 1) := by decide +kernel
theorem dM_spare_37 : decode cM_spare 37 = .ok (.iaload, 1) := by decide +kernel
theorem dM_spare_38 : decode cM_spare 38 = .ok (.aload_n 0, 1) := by decide +kernel
theorem dM_spare_39 : decode cM_spare 39 = .ok (.getfield 7, 3) := by decide +kernel
theorem dM_spare_42 : decode cM_spare 42 = .ok (.iconst 4, 1) := by decide +kernel
theorem dM_spare_43 : decode cM_spare 43 = .ok (.iload_n 1, 1) := by decide +kernel
theorem dM_spare_44 : decode cM_spare 44 = .ok (.imul, 1) := by decide +kernel
theorem dM_spare_45 : decode cM_spare 45 = .ok (.iconst 2, 1) := by decide +kernel
theorem dM_spare_46 : decode cM_spare 46 = .ok (.iadd, 1) := by decide +kernel
theorem dM_spare_47 : decode cM_spare 47 = .ok (.iaload, 1) := by decide +kernel
theorem dM_spare_48 : decode cM_spare 48 = .ok (.aload_n 0, 1) := by decide +kernel
theorem dM_spare_49 : decode cM_spare 49 = .ok (.getfield 7, 3) := by decide +kernel
theorem dM_spare_52 : decode cM_spare 52 = .ok (.iconst 4, 1) := by decide +kernel
theorem dM_spare_53 : decode cM_spare 53 = .ok (.iload_n 1, 1) := by decide +kernel
theorem dM_spare_54 : decode cM_spare 54 = .ok (.imul, 1) := by decide +kernel
theorem dM_spare_55 : decode cM_spare 55 = .ok (.iconst 3, 1) := by decide +kernel
theorem dM_spare_56 : decode cM_spare 56 = .ok (.iadd, 1) := by decide +kernel
theorem dM_spare_57 : decode cM_spare 57 = .ok (.iaload, 1) := by decide +kernel
theorem dM_spare_58 : decode cM_spare 58 = .ok (.invokevirtual 118, 3) := by decide +kernel
theorem dM_spare_61 : decode cM_spare 61 = .ok (.aload_n 0, 1) := by decide +kernel
theorem dM_spare_62 : decode cM_spare 62 = .ok (.invokevirtual 122, 3) := by decide +kernel
theorem dM_spare_65 : decode cM_spare 65 = .ok (.lconst 1, 1) := by decide +kernel
theorem dM_spare_66 : decode cM_spare 66 = .ok (.lcmp, 1) := by decide +kernel
theorem dM_spare_67 : decode cM_spare 67 = .ok (.ifCond .ne 7, 3) := by decide +kernel
theorem dM_spare_70 : decode cM_spare 70 = .ok (.iconst 1, 1) := by decide +kernel
theorem dM_spare_71 : decode cM_spare 71 = .ok (.goto 4, 3) := by decide +kernel
theorem dM_spare_74 : decode cM_spare 74 = .ok (.iconst 0, 1) := by decide +kernel
theorem dM_spare_75 : decode cM_spare 75 = .ok (.ireturn, 1) := by decide +kernel
theorem cb_M_look_M_spare : CB yM_look cM_look 4 none rm_M_look rm_M_spare 1 := ⟨wd598, wd8, by decide +kernel, rfl, rfl, by decide⟩
theorem cb_M_set_M_spare : CB yM_set cM_set 5 none rm_M_set rm_M_spare 4 := ⟨wd645, wd8, by decide +kernel, rfl, rfl, by decide⟩
theorem cb_M_times_M_spare : CB yM_times cM_times 12 (some .long) rm_M_times rm_M_spare 0 := ⟨wd649, wd8, by decide +kernel, rfl, rfl, by decide⟩
noncomputable def M_spare (F : Nat) (τ : MS) (v1 : Int32) : Option (Int32 × MS) := if v1 < 0 then some ((0 : Int32), τ) else if v1 < (m_many τ) then (M_look F τ v1).bind (fun r16 => gd (vp_in ((4 : Int32) * v1) 24) (gd (vp_in (((4 : Int32) * v1) + (1 : Int32)) 24) (gd (vp_in (((4 : Int32) * v1) + (2 : Int32)) 24) (gd (vp_in (((4 : Int32) * v1) + (3 : Int32)) 24) ((M_set F r16 ((m_generator r16) ((4 : Int32) * v1).toNatClampNeg) ((m_generator r16) (((4 : Int32) * v1) + (1 : Int32)).toNatClampNeg) ((m_generator r16) (((4 : Int32) * v1) + (2 : Int32)).toNatClampNeg) ((m_generator r16) (((4 : Int32) * v1) + (3 : Int32)).toNatClampNeg)).bind (fun r58 => (M_times F r58 ).bind (fun r62 => if r62.1 = (1 : Int64) then some ((1 : Int32), r62.2) else some ((0 : Int32), r62.2)))))))) else some ((0 : Int32), τ)
set_option maxHeartbeats 4000000 in
set_option maxRecDepth 100000 in
theorem met_M_spare (κ : ctx) (X : Nat → va_E) (F : Nat) (τ : MS) (v1 : Int32) {out : Int32 × MS} (h : M_spare F τ v1 = some out) : Mt yM_spare cM_spare 2 (some .boolean) rm_M_spare κ [.ref (κ.1 0), .int v1] (LM κ τ X) (some (.int out.1)) (LM κ out.2 X) := by
  refine Mt.of (by decide) (Nat.le_of_ble_eq_true rfl) ?_
  intro g G Fh
  unfold M_spare at h
  show J g κ 2 0 [(0, .ref (κ.1 0)), (1, .int v1)] [] (LM κ τ X)
  refine w_iload_n (pc := 0) (q := 1) G dM_spare_0 rfl rfl ?_
  refine w_if_lt (pc := 1) (tgt := 12) G dM_spare_1 (by decide) (fun c1 => ?_) (fun c1 => ?_)
  · have h := if_t c1 h
    refine w_iconst (pc := 12) (v := (0 : Int32)) G dM_spare_12 (by decide) ?_
    obtain rfl := Option.some.inj h
    exact w_zret (pc := 13) G rfl dM_spare_13 Fh
  · have h := if_f c1 h
    refine w_iload_n (pc := 4) (q := 1) G dM_spare_4 rfl rfl ?_
    refine w_aload_n (pc := 5) (q := 0) G dM_spare_5 rfl rfl ?_
    refine w_get (pc := 6) (v := .int (m_many τ)) (fs := mfl κ τ) G 0 (by decide) rfl rfl wsM_ok 0 (by decide) wd490 rfl dM_spare_6 ?_
    refine w_icmp_lt (pc := 9) (tgt := 14) G dM_spare_9 (by decide) (fun c9 => ?_) (fun c9 => ?_)
    · have h := if_t c9 h
      refine w_aload_n (pc := 14) (q := 0) G dM_spare_14 rfl rfl ?_
      refine w_iload_n (pc := 15) (q := 1) G dM_spare_15 rfl rfl ?_
      obtain ⟨r16, e16, h⟩ := bd h
      refine w_callV (pc := 16) (av := [.int v1]) (rest := []) (v := none) (L' := (LM κ r16 X)) (T := TM) (fs := mfl κ τ) G 0 0 27 (by decide) rfl rfl cb_M_look_M_spare wd597 ws20 wd595 (met_M_look κ X F τ v1 e16) rfl rfl rfl (Nat.le_of_ble_eq_true rfl) dM_spare_16 ?_
      refine w_aload_n (pc := 19) (q := 0) G dM_spare_19 rfl rfl ?_
      refine w_aload_n (pc := 20) (q := 0) G dM_spare_20 rfl rfl ?_
      refine w_get (pc := 21) (v := .ref (κ.1 1)) (fs := mfl κ r16) G 0 (by decide) rfl rfl wsM_ok 1 (by decide) wd491 rfl dM_spare_21 ?_
      refine w_iconst (pc := 24) (v := (4 : Int32)) G dM_spare_24 (by decide) ?_
      refine w_iload_n (pc := 25) (q := 1) G dM_spare_25 rfl rfl ?_
      refine w_imul (pc := 26) G dM_spare_26 ?_
      obtain ⟨i27, h⟩ := gd_some h
      refine w_iald (pc := 27) (n := 24) (f := (m_generator r16)) G 1 (by decide) rfl i27 dM_spare_27 ?_
      refine w_aload_n (pc := 28) (q := 0) G dM_spare_28 rfl rfl ?_
      refine w_get (pc := 29) (v := .ref (κ.1 1)) (fs := mfl κ r16) G 0 (by decide) rfl rfl wsM_ok 1 (by decide) wd491 rfl dM_spare_29 ?_
      refine w_iconst (pc := 32) (v := (4 : Int32)) G dM_spare_32 (by decide) ?_
      refine w_iload_n (pc := 33) (q := 1) G dM_spare_33 rfl rfl ?_
      refine w_imul (pc := 34) G dM_spare_34 ?_
      refine w_iconst (pc := 35) (v := (1 : Int32)) G dM_spare_35 (by decide) ?_
      refine w_iadd (pc := 36) G dM_spare_36 ?_
      obtain ⟨i37, h⟩ := gd_some h
      refine w_iald (pc := 37) (n := 24) (f := (m_generator r16)) G 1 (by decide) rfl i37 dM_spare_37 ?_
      refine w_aload_n (pc := 38) (q := 0) G dM_spare_38 rfl rfl ?_
      refine w_get (pc := 39) (v := .ref (κ.1 1)) (fs := mfl κ r16) G 0 (by decide) rfl rfl wsM_ok 1 (by decide) wd491 rfl dM_spare_39 ?_
      refine w_iconst (pc := 42) (v := (4 : Int32)) G dM_spare_42 (by decide) ?_
      refine w_iload_n (pc := 43) (q := 1) G dM_spare_43 rfl rfl ?_
      refine w_imul (pc := 44) G dM_spare_44 ?_
      refine w_iconst (pc := 45) (v := (2 : Int32)) G dM_spare_45 (by decide) ?_
      refine w_iadd (pc := 46) G dM_spare_46 ?_
      obtain ⟨i47, h⟩ := gd_some h
      refine w_iald (pc := 47) (n := 24) (f := (m_generator r16)) G 1 (by decide) rfl i47 dM_spare_47 ?_
      refine w_aload_n (pc := 48) (q := 0) G dM_spare_48 rfl rfl ?_
      refine w_get (pc := 49) (v := .ref (κ.1 1)) (fs := mfl κ r16) G 0 (by decide) rfl rfl wsM_ok 1 (by decide) wd491 rfl dM_spare_49 ?_
      refine w_iconst (pc := 52) (v := (4 : Int32)) G dM_spare_52 (by decide) ?_
      refine w_iload_n (pc := 53) (q := 1) G dM_spare_53 rfl rfl ?_
      refine w_imul (pc := 54) G dM_spare_54 ?_
      refine w_iconst (pc := 55) (v := (3 : Int32)) G dM_spare_55 (by decide) ?_
      refine w_iadd (pc := 56) G dM_spare_56 ?_
      obtain ⟨i57, h⟩ := gd_some h
      refine w_iald (pc := 57) (n := 24) (f := (m_generator r16)) G 1 (by decide) rfl i57 dM_spare_57 ?_
      obtain ⟨r58, e58, h⟩ := bd h
      refine w_callV (pc := 58) (av := [.int ((m_generator r16) ((4 : Int32) * v1).toNatClampNeg), .int ((m_generator r16) (((4 : Int32) * v1) + (1 : Int32)).toNatClampNeg), .int ((m_generator r16) (((4 : Int32) * v1) + (2 : Int32)).toNatClampNeg), .int ((m_generator r16) (((4 : Int32) * v1) + (3 : Int32)).toNatClampNeg)]) (rest := []) (v := none) (L' := (LM κ r58 X)) (T := TM) (fs := mfl κ r16) G 0 0 27 (by decide) rfl rfl cb_M_set_M_spare wd644 ws29 wd642 (met_M_set κ X F r16 ((m_generator r16) ((4 : Int32) * v1).toNatClampNeg) ((m_generator r16) (((4 : Int32) * v1) + (1 : Int32)).toNatClampNeg) ((m_generator r16) (((4 : Int32) * v1) + (2 : Int32)).toNatClampNeg) ((m_generator r16) (((4 : Int32) * v1) + (3 : Int32)).toNatClampNeg) e58) rfl rfl rfl (Nat.le_of_ble_eq_true rfl) dM_spare_58 ?_
      refine w_aload_n (pc := 61) (q := 0) G dM_spare_61 rfl rfl ?_
      obtain ⟨r62, e62, h⟩ := bd h
      refine w_callV (pc := 62) (av := []) (rest := []) (v := some (.long r62.1)) (L' := (LM κ r62.2 X)) (T := TM) (fs := mfl κ r58) G 0 0 27 (by decide) rfl rfl cb_M_times_M_spare wd648 ws30 wd646 (met_M_times κ X F r58  e62) rfl rfl rfl (Nat.le_of_ble_eq_true rfl) dM_spare_62 ?_
      refine w_lconst (pc := 65) (v := (1 : Int64)) G dM_spare_65 (by decide) ?_
      refine w_lc_ne (pc := 66) (tgt := 74) G dM_spare_66 dM_spare_67 (by decide) (fun c66 => ?_) (fun c66 => ?_)
      · have h := if_t c66 h
        refine w_iconst (pc := 70) (v := (1 : Int32)) G dM_spare_70 (by decide) ?_
        refine w_goto (pc := 71) (tgt := 75) G dM_spare_71 (by decide) ?_
        obtain rfl := Option.some.inj h
        exact w_zret (pc := 75) G rfl dM_spare_75 Fh
      · have h := if_f c66 h
        refine w_iconst (pc := 74) (v := (0 : Int32)) G dM_spare_74 (by decide) ?_
        obtain rfl := Option.some.inj h
        exact w_zret (pc := 75) G rfl dM_spare_75 Fh
    · have h := if_f c9 h
      refine w_iconst (pc := 12) (v := (0 : Int32)) G dM_spare_12 (by decide) ?_
      obtain rfl := Option.some.inj h
      exact w_zret (pc := 13) G rfl dM_spare_13 Fh
def rm_M_has : Room := { frames := 5, cells := 0, slots := 0, locals := 121 }
theorem dM_has_0 : decode cM_has 0 = .ok (.iload_n 1, 1) := by decide +kernel
theorem dM_has_1 : decode cM_has 1 = .ok (.iload_n 2, 1) := by decide +kernel
theorem dM_has_2 : decode cM_has 2 = .ok (.iload_n 3, 1) := by decide +kernel
theorem dM_has_3 : decode cM_has 3 = .ok (.iload 4, 2) := by decide +kernel
theorem dM_has_5 : decode cM_has 5 = .ok (.sipush 1000, 3) := by decide +kernel
theorem dM_has_8 : decode cM_has 8 = .ok (.invokestatic 63, 3) := by decide +kernel
theorem dM_has_11 : decode cM_has 11 = .ok (.ifCond .ne 5, 3) := by decide +kernel
theorem dM_has_14 : decode cM_has 14 = .ok (.iconst 0, 1) := by decide +kernel
theorem dM_has_15 : decode cM_has 15 = .ok (.ireturn, 1) := by decide +kernel
theorem dM_has_16 : decode cM_has 16 = .ok (.aload_n 0, 1) := by decide +kernel
theorem dM_has_17 : decode cM_has 17 = .ok (.iconst (-1), 1) := by decide +kernel
theorem dM_has_18 : decode cM_has 18 = .ok (.invokevirtual 107, 3) := by decide +kernel
theorem dM_has_21 : decode cM_has 21 = .ok (.aload_n 0, 1) := by decide +kernel
theorem dM_has_22 : decode cM_has 22 = .ok (.iload_n 1, 1) := by decide +kernel
theorem dM_has_23 : decode cM_has 23 = .ok (.iload_n 2, 1) := by decide +kernel
theorem dM_has_24 : decode cM_has 24 = .ok (.iload_n 3, 1) := by decide +kernel
theorem dM_has_25 : decode cM_has 25 = .ok (.iload 4, 2) := by decide +kernel
theorem dM_has_27 : decode cM_has 27 = .ok (.invokevirtual 118, 3) := by decide +kernel
theorem dM_has_30 : decode cM_has 30 = .ok (.aload_n 0, 1) := by decide +kernel
theorem dM_has_31 : decode cM_has 31 = .ok (.invokevirtual 122, 3) := by decide +kernel
theorem dM_has_34 : decode cM_has 34 = .ok (.lconst 1, 1) := by decide +kernel
theorem dM_has_35 : decode cM_has 35 = .ok (.lcmp, 1) := by decide +kernel
theorem dM_has_36 : decode cM_has 36 = .ok (.ifCond .ne 7, 3) := by decide +kernel
theorem dM_has_39 : decode cM_has 39 = .ok (.iconst 1, 1) := by decide +kernel
theorem dM_has_40 : decode cM_has 40 = .ok (.goto 4, 3) := by decide +kernel
theorem dM_has_43 : decode cM_has 43 = .ok (.iconst 0, 1) := by decide +kernel
theorem dM_has_44 : decode cM_has 44 = .ok (.ireturn, 1) := by decide +kernel
theorem cb_M_look_M_has : CB yM_look cM_look 4 none rm_M_look rm_M_has 1 := ⟨wd598, wd8, by decide +kernel, rfl, rfl, by decide⟩
theorem cb_M_set_M_has : CB yM_set cM_set 5 none rm_M_set rm_M_has 4 := ⟨wd645, wd8, by decide +kernel, rfl, rfl, by decide⟩
theorem cb_M_times_M_has : CB yM_times cM_times 12 (some .long) rm_M_times rm_M_has 0 := ⟨wd649, wd8, by decide +kernel, rfl, rfl, by decide⟩
theorem cb_M_within_M_has : CB yM_within cM_within 5 (some .boolean) rm_M_within rm_M_has 5 := ⟨wd578, wd8, by decide +kernel, rfl, rfl, by decide⟩
noncomputable def M_has (F : Nat) (τ : MS) (v1 : Int32) (v2 : Int32) (v3 : Int32) (v4 : Int32) : Option (Int32 × MS) := (M_within F v1 v2 v3 v4 (1000 : Int32)).bind (fun r8 => if r8 = 0 then some ((0 : Int32), τ) else (M_look F τ (-1 : Int32)).bind (fun r18 => (M_set F r18 v1 v2 v3 v4).bind (fun r27 => (M_times F r27 ).bind (fun r31 => if r31.1 = (1 : Int64) then some ((1 : Int32), r31.2) else some ((0 : Int32), r31.2)))))
set_option maxHeartbeats 4000000 in
set_option maxRecDepth 100000 in
theorem met_M_has (κ : ctx) (X : Nat → va_E) (F : Nat) (τ : MS) (v1 : Int32) (v2 : Int32) (v3 : Int32) (v4 : Int32) {out : Int32 × MS} (h : M_has F τ v1 v2 v3 v4 = some out) : Mt yM_has cM_has 5 (some .boolean) rm_M_has κ [.ref (κ.1 0), .int v1, .int v2, .int v3, .int v4] (LM κ τ X) (some (.int out.1)) (LM κ out.2 X) := by
  refine Mt.of (by decide) (Nat.le_of_ble_eq_true rfl) ?_
  intro g G Fh
  unfold M_has at h
  show J g κ 5 0 [(0, .ref (κ.1 0)), (1, .int v1), (2, .int v2), (3, .int v3), (4, .int v4)] [] (LM κ τ X)
  refine w_iload_n (pc := 0) (q := 1) G dM_has_0 rfl rfl ?_
  refine w_iload_n (pc := 1) (q := 2) G dM_has_1 rfl rfl ?_
  refine w_iload_n (pc := 2) (q := 3) G dM_has_2 rfl rfl ?_
  refine w_iload (pc := 3) (q := 4) G dM_has_3 rfl ?_
  refine w_sipush (pc := 5) (v := (1000 : Int32)) G dM_has_5 (by decide) ?_
  obtain ⟨r8, e8, h⟩ := bd h
  refine w_callS (pc := 8) (av := [.int v1, .int v2, .int v3, .int v4, .int (1000 : Int32)]) (rest := []) (v := some (.int r8)) (L' := (LM κ τ X)) G cb_M_within_M_has wd577 wd576 (met_M_within κ (LM κ τ X) F v1 v2 v3 v4 (1000 : Int32) e8) rfl rfl rfl (Nat.le_of_ble_eq_true rfl) dM_has_8 ?_
  refine w_if_ne (pc := 11) (tgt := 16) G dM_has_11 (by decide) (fun c11 => ?_) (fun c11 => ?_)
  · have h := if_t c11 h
    refine w_iconst (pc := 14) (v := (0 : Int32)) G dM_has_14 (by decide) ?_
    obtain rfl := Option.some.inj h
    exact w_zret (pc := 15) G rfl dM_has_15 Fh
  · have h := if_f c11 h
    refine w_aload_n (pc := 16) (q := 0) G dM_has_16 rfl rfl ?_
    refine w_iconst (pc := 17) (v := (-1 : Int32)) G dM_has_17 (by decide) ?_
    obtain ⟨r18, e18, h⟩ := bd h
    refine w_callV (pc := 18) (av := [.int (-1 : Int32)]) (rest := []) (v := none) (L' := (LM κ r18 X)) (T := TM) (fs := mfl κ τ) G 0 0 27 (by decide) rfl rfl cb_M_look_M_has wd597 ws20 wd595 (met_M_look κ X F τ (-1 : Int32) e18) rfl rfl rfl (Nat.le_of_ble_eq_true rfl) dM_has_18 ?_
    refine w_aload_n (pc := 21) (q := 0) G dM_has_21 rfl rfl ?_
    refine w_iload_n (pc := 22) (q := 1) G dM_has_22 rfl rfl ?_
    refine w_iload_n (pc := 23) (q := 2) G dM_has_23 rfl rfl ?_
    refine w_iload_n (pc := 24) (q := 3) G dM_has_24 rfl rfl ?_
    refine w_iload (pc := 25) (q := 4) G dM_has_25 rfl ?_
    obtain ⟨r27, e27, h⟩ := bd h
    refine w_callV (pc := 27) (av := [.int v1, .int v2, .int v3, .int v4]) (rest := []) (v := none) (L' := (LM κ r27 X)) (T := TM) (fs := mfl κ r18) G 0 0 27 (by decide) rfl rfl cb_M_set_M_has wd644 ws29 wd642 (met_M_set κ X F r18 v1 v2 v3 v4 e27) rfl rfl rfl (Nat.le_of_ble_eq_true rfl) dM_has_27 ?_
    refine w_aload_n (pc := 30) (q := 0) G dM_has_30 rfl rfl ?_
    obtain ⟨r31, e31, h⟩ := bd h
    refine w_callV (pc := 31) (av := []) (rest := []) (v := some (.long r31.1)) (L' := (LM κ r31.2 X)) (T := TM) (fs := mfl κ r27) G 0 0 27 (by decide) rfl rfl cb_M_times_M_has wd648 ws30 wd646 (met_M_times κ X F r27  e31) rfl rfl rfl (Nat.le_of_ble_eq_true rfl) dM_has_31 ?_
    refine w_lconst (pc := 34) (v := (1 : Int64)) G dM_has_34 (by decide) ?_
    refine w_lc_ne (pc := 35) (tgt := 43) G dM_has_35 dM_has_36 (by decide) (fun c35 => ?_) (fun c35 => ?_)
    · have h := if_t c35 h
      refine w_iconst (pc := 39) (v := (1 : Int32)) G dM_has_39 (by decide) ?_
      refine w_goto (pc := 40) (tgt := 44) G dM_has_40 (by decide) ?_
      obtain rfl := Option.some.inj h
      exact w_zret (pc := 44) G rfl dM_has_44 Fh
    · have h := if_f c35 h
      refine w_iconst (pc := 43) (v := (0 : Int32)) G dM_has_43 (by decide) ?_
      obtain rfl := Option.some.inj h
      exact w_zret (pc := 44) G rfl dM_has_44 Fh
def rm_M_order : Room := { frames := 5, cells := 0, slots := 0, locals := 121 }
theorem dM_order_0 : decode cM_order 0 = .ok (.iload_n 1, 1) := by decide +kernel
theorem dM_order_1 : decode cM_order 1 = .ok (.iload_n 2, 1) := by decide +kernel
theorem dM_order_2 : decode cM_order 2 = .ok (.iload_n 3, 1) := by decide +kernel
theorem dM_order_3 : decode cM_order 3 = .ok (.iload 4, 2) := by decide +kernel
theorem dM_order_5 : decode cM_order 5 = .ok (.bipush 100, 2) := by decide +kernel
theorem dM_order_7 : decode cM_order 7 = .ok (.invokestatic 63, 3) := by decide +kernel
theorem dM_order_10 : decode cM_order 10 = .ok (.ifCond .ne 7, 3) := by decide +kernel
theorem dM_order_13 : decode cM_order 13 = .ok (.ldc2_w 126, 3) := by decide +kernel
theorem dM_order_16 : decode cM_order 16 = .ok (.lreturn, 1) := by decide +kernel
theorem dM_order_17 : decode cM_order 17 = .ok (.aload_n 0, 1) := by decide +kernel
theorem dM_order_18 : decode cM_order 18 = .ok (.iconst (-1), 1) := by decide +kernel
theorem dM_order_19 : decode cM_order 19 = .ok (.invokevirtual 107, 3) := by decide +kernel
theorem dM_order_22 : decode cM_order 22 = .ok (.aload_n 0, 1) := by decide +kernel
theorem dM_order_23 : decode cM_order 23 = .ok (.iload_n 1, 1) := by decide +kernel
theorem dM_order_24 : decode cM_order 24 = .ok (.iload_n 2, 1) := by decide +kernel
theorem dM_order_25 : decode cM_order 25 = .ok (.iload_n 3, 1) := by decide +kernel
theorem dM_order_26 : decode cM_order 26 = .ok (.iload 4, 2) := by decide +kernel
theorem dM_order_28 : decode cM_order 28 = .ok (.invokevirtual 118, 3) := by decide +kernel
theorem dM_order_31 : decode cM_order 31 = .ok (.aload_n 0, 1) := by decide +kernel
theorem dM_order_32 : decode cM_order 32 = .ok (.invokevirtual 122, 3) := by decide +kernel
theorem dM_order_35 : decode cM_order 35 = .ok (.lreturn, 1) := by decide +kernel
theorem cb_M_look_M_order : CB yM_look cM_look 4 none rm_M_look rm_M_order 1 := ⟨wd598, wd8, by decide +kernel, rfl, rfl, by decide⟩
theorem cb_M_set_M_order : CB yM_set cM_set 5 none rm_M_set rm_M_order 4 := ⟨wd645, wd8, by decide +kernel, rfl, rfl, by decide⟩
theorem cb_M_times_M_order : CB yM_times cM_times 12 (some .long) rm_M_times rm_M_order 0 := ⟨wd649, wd8, by decide +kernel, rfl, rfl, by decide⟩
theorem cb_M_within_M_order : CB yM_within cM_within 5 (some .boolean) rm_M_within rm_M_order 5 := ⟨wd578, wd8, by decide +kernel, rfl, rfl, by decide⟩
noncomputable def M_order (F : Nat) (τ : MS) (v1 : Int32) (v2 : Int32) (v3 : Int32) (v4 : Int32) : Option (Int64 × MS) := (M_within F v1 v2 v3 v4 (100 : Int32)).bind (fun r7 => if r7 = 0 then some ((-1 : Int64), τ) else (M_look F τ (-1 : Int32)).bind (fun r19 => (M_set F r19 v1 v2 v3 v4).bind (fun r28 => (M_times F r28 ).bind (fun r32 => some (r32.1, r32.2)))))
set_option maxHeartbeats 4000000 in
set_option maxRecDepth 100000 in
theorem met_M_order (κ : ctx) (X : Nat → va_E) (F : Nat) (τ : MS) (v1 : Int32) (v2 : Int32) (v3 : Int32) (v4 : Int32) {out : Int64 × MS} (h : M_order F τ v1 v2 v3 v4 = some out) : Mt yM_order cM_order 5 (some .long) rm_M_order κ [.ref (κ.1 0), .int v1, .int v2, .int v3, .int v4] (LM κ τ X) (some (.long out.1)) (LM κ out.2 X) := by
  refine Mt.of (by decide) (Nat.le_of_ble_eq_true rfl) ?_
  intro g G Fh
  unfold M_order at h
  show J g κ 5 0 [(0, .ref (κ.1 0)), (1, .int v1), (2, .int v2), (3, .int v3), (4, .int v4)] [] (LM κ τ X)
  refine w_iload_n (pc := 0) (q := 1) G dM_order_0 rfl rfl ?_
  refine w_iload_n (pc := 1) (q := 2) G dM_order_1 rfl rfl ?_
  refine w_iload_n (pc := 2) (q := 3) G dM_order_2 rfl rfl ?_
  refine w_iload (pc := 3) (q := 4) G dM_order_3 rfl ?_
  refine w_bipush (pc := 5) (v := (100 : Int32)) G dM_order_5 (by decide) ?_
  obtain ⟨r7, e7, h⟩ := bd h
  refine w_callS (pc := 7) (av := [.int v1, .int v2, .int v3, .int v4, .int (100 : Int32)]) (rest := []) (v := some (.int r7)) (L' := (LM κ τ X)) G cb_M_within_M_order wd577 wd576 (met_M_within κ (LM κ τ X) F v1 v2 v3 v4 (100 : Int32) e7) rfl rfl rfl (Nat.le_of_ble_eq_true rfl) dM_order_7 ?_
  refine w_if_ne (pc := 10) (tgt := 17) G dM_order_10 (by decide) (fun c10 => ?_) (fun c10 => ?_)
  · have h := if_t c10 h
    refine w_ldc2 (pc := 13) (v := (-1 : Int64)) G wd661 dM_order_13 ?_
    obtain rfl := Option.some.inj h
    exact w_lret (pc := 16) G dM_order_16 Fh
  · have h := if_f c10 h
    refine w_aload_n (pc := 17) (q := 0) G dM_order_17 rfl rfl ?_
    refine w_iconst (pc := 18) (v := (-1 : Int32)) G dM_order_18 (by decide) ?_
    obtain ⟨r19, e19, h⟩ := bd h
    refine w_callV (pc := 19) (av := [.int (-1 : Int32)]) (rest := []) (v := none) (L' := (LM κ r19 X)) (T := TM) (fs := mfl κ τ) G 0 0 27 (by decide) rfl rfl cb_M_look_M_order wd597 ws20 wd595 (met_M_look κ X F τ (-1 : Int32) e19) rfl rfl rfl (Nat.le_of_ble_eq_true rfl) dM_order_19 ?_
    refine w_aload_n (pc := 22) (q := 0) G dM_order_22 rfl rfl ?_
    refine w_iload_n (pc := 23) (q := 1) G dM_order_23 rfl rfl ?_
    refine w_iload_n (pc := 24) (q := 2) G dM_order_24 rfl rfl ?_
    refine w_iload_n (pc := 25) (q := 3) G dM_order_25 rfl rfl ?_
    refine w_iload (pc := 26) (q := 4) G dM_order_26 rfl ?_
    obtain ⟨r28, e28, h⟩ := bd h
    refine w_callV (pc := 28) (av := [.int v1, .int v2, .int v3, .int v4]) (rest := []) (v := none) (L' := (LM κ r28 X)) (T := TM) (fs := mfl κ r19) G 0 0 27 (by decide) rfl rfl cb_M_set_M_order wd644 ws29 wd642 (met_M_set κ X F r19 v1 v2 v3 v4 e28) rfl rfl rfl (Nat.le_of_ble_eq_true rfl) dM_order_28 ?_
    refine w_aload_n (pc := 31) (q := 0) G dM_order_31 rfl rfl ?_
    obtain ⟨r32, e32, h⟩ := bd h
    refine w_callV (pc := 32) (av := []) (rest := []) (v := some (.long r32.1)) (L' := (LM κ r32.2 X)) (T := TM) (fs := mfl κ r28) G 0 0 27 (by decide) rfl rfl cb_M_times_M_order wd648 ws30 wd646 (met_M_times κ X F r28  e32) rfl rfl rfl (Nat.le_of_ble_eq_true rfl) dM_order_32 ?_
    obtain rfl := Option.some.inj h
    exact w_lret (pc := 35) G dM_order_35 Fh
def rm_M_origin : Room := { frames := 0, cells := 0, slots := 0, locals := 0 }
theorem dM_origin_0 : decode cM_origin 0 = .ok (.iconst 0, 1) := by decide +kernel
theorem dM_origin_1 : decode cM_origin 1 = .ok (.istore_n 1, 1) := by decide +kernel
theorem dM_origin_2 : decode cM_origin 2 = .ok (.iload_n 1, 1) := by decide +kernel
theorem dM_origin_3 : decode cM_origin 3 = .ok (.iconst 4, 1) := by decide +kernel
theorem dM_origin_4 : decode cM_origin 4 = .ok (.if_icmp .ge 16, 3) := by decide +kernel
theorem dM_origin_7 : decode cM_origin 7 = .ok (.aload_n 0, 1) := by decide +kernel
theorem dM_origin_8 : decode cM_origin 8 = .ok (.getfield 35, 3) := by decide +kernel
theorem dM_origin_11 : decode cM_origin 11 = .ok (.iload_n 1, 1) := by decide +kernel
theorem dM_origin_12 : decode cM_origin 12 = .ok (.lconst 0, 1) := by decide +kernel
theorem dM_origin_13 : decode cM_origin 13 = .ok (.lastore, 1) := by decide +kernel
theorem dM_origin_14 : decode cM_origin 14 = .ok (.iinc 1 1, 3) := by decide +kernel
theorem dM_origin_17 : decode cM_origin 17 = .ok (.goto (-15), 3) := by decide +kernel
theorem dM_origin_20 : decode cM_origin 20 = .ok (.return_, 1) := by decide +kernel
noncomputable def lM_origin_2 (F : Nat)  : Nat → Int32 → MS → Option (MS)
  | 0, _, _ => none
  | n + 1, v1, τ => if (4 : Int32) ≤ v1 then some (τ) else gd (vp_in v1 4) (lM_origin_2 F  n (v1 + 1) (s_point τ (vp_updL (m_point τ) v1.toNatClampNeg (0 : Int64))))
set_option maxHeartbeats 4000000 in
set_option maxRecDepth 100000 in
theorem lM_origin_2_ok {g : Gm} {κ : ctx} (G : OK g κ RM cM_origin 2 none rm_M_origin) (X : Nat → va_E) (F : Nat)  : ∀ (n : Nat) (v1 : Int32) (τ : MS) (out : MS), lM_origin_2 F  n v1 τ = some out → (J g κ 2 20 [] [] (LM κ out X)) → J g κ 2 2 [(0, .ref (κ.1 0)), (1, .int v1)] [] (LM κ τ X) := by
  intro n
  induction n with
  | zero =>
    intro v1 τ
    intro out h
    rw [lM_origin_2] at h
    cases h
  | succ n ih =>
    intro v1 τ out h K
    rw [lM_origin_2] at h
    refine w_iload_n (pc := 2) (q := 1) G dM_origin_2 rfl rfl ?_
    refine w_iconst (pc := 3) (v := (4 : Int32)) G dM_origin_3 (by decide) ?_
    refine w_icmp_ge (pc := 4) (tgt := 20) G dM_origin_4 (by decide) (fun c4 => ?_) (fun c4 => ?_)
    · have h := if_t c4 h
      obtain rfl := Option.some.inj h
      refine w_sub (lv' := []) [] rfl ?_
      exact K
    · have h := if_f c4 h
      refine w_aload_n (pc := 7) (q := 0) G dM_origin_7 rfl rfl ?_
      refine w_get (pc := 8) (v := .ref (κ.1 9)) (fs := mfl κ τ) G 0 (by decide) rfl rfl wsM_ok 12 (by decide) wd502 rfl dM_origin_8 ?_
      refine w_iload_n (pc := 11) (q := 1) G dM_origin_11 rfl rfl ?_
      refine w_lconst (pc := 12) (v := (0 : Int64)) G dM_origin_12 (by decide) ?_
      obtain ⟨i13, h⟩ := gd_some h
      refine w_last (pc := 13) (n := 4) (f := (m_point τ)) (L1 := (LM κ (s_point τ (vp_updL (m_point τ) v1.toNatClampNeg (0 : Int64))) X)) G 9 (by decide) rfl i13 dM_origin_13 (LM_point κ τ X _) ?_
      refine w_iinc (pc := 14) (q0 := 1) (v := (v1 + 1)) (lv' := [(1, .int (v1 + 1)), (0, .ref (κ.1 0))]) G dM_origin_14 rfl rfl (by decide) rfl ?_
      refine w_goto (pc := 17) (tgt := 2) G dM_origin_17 (by decide) ?_
      refine w_sub (lv' := [(0, .ref (κ.1 0)), (1, .int (v1 + 1))]) [1, 0] rfl ?_
      exact ih (v1 + 1) (s_point τ (vp_updL (m_point τ) v1.toNatClampNeg (0 : Int64))) out h K
noncomputable def M_origin (F : Nat) (τ : MS)  : Option (MS) := (lM_origin_2 F  F (0 : Int32) τ).bind (fun o2_4 => some o2_4)
set_option maxHeartbeats 4000000 in
set_option maxRecDepth 100000 in
theorem met_M_origin (κ : ctx) (X : Nat → va_E) (F : Nat) (τ : MS)  {out : MS} (h : M_origin F τ  = some out) : Mt yM_origin cM_origin 2 none rm_M_origin κ [.ref (κ.1 0)] (LM κ τ X) none (LM κ out X) := by
  refine Mt.of (by decide) (Nat.le_of_ble_eq_true rfl) ?_
  intro g G Fh
  unfold M_origin at h
  show J g κ 2 0 [(0, .ref (κ.1 0))] [] (LM κ τ X)
  refine w_iconst (pc := 0) (v := (0 : Int32)) G dM_origin_0 (by decide) ?_
  refine w_istore_n (pc := 1) (lv' := [(1, .int (0 : Int32)), (0, .ref (κ.1 0))]) G dM_origin_1 rfl (by decide) rfl ?_
  refine w_sub (lv' := [(0, .ref (κ.1 0)), (1, .int (0 : Int32))]) [1, 0] rfl ?_
  obtain ⟨o2_4, eo2_4, h⟩ := bd h
  refine lM_origin_2_ok G X F  F (0 : Int32) τ o2_4 eo2_4 ?_
  obtain rfl := Option.some.inj h
  exact w_vret (pc := 20) G dM_origin_20 Fh
def rm_M_open : Room := { frames := 0, cells := 0, slots := 0, locals := 0 }
theorem dM_open_0 : decode cM_open 0 = .ok (.iload_n 1, 1) := by decide +kernel
theorem dM_open_1 : decode cM_open 1 = .ok (.aload_n 0, 1) := by decide +kernel
theorem dM_open_2 : decode cM_open 2 = .ok (.getfield 74, 3) := by decide +kernel
theorem dM_open_5 : decode cM_open 5 = .ok (.if_icmp .ge 12, 3) := by decide +kernel
theorem dM_open_8 : decode cM_open 8 = .ok (.aload_n 0, 1) := by decide +kernel
theorem dM_open_9 : decode cM_open 9 = .ok (.getfield 17, 3) := by decide +kernel
theorem dM_open_12 : decode cM_open 12 = .ok (.iload_n 1, 1) := by decide +kernel
theorem dM_open_13 : decode cM_open 13 = .ok (.iaload, 1) := by decide +kernel
theorem dM_open_14 : decode cM_open 14 = .ok (.goto 4, 3) := by decide +kernel
theorem dM_open_17 : decode cM_open 17 = .ok (.iconst 4, 1) := by decide +kernel
theorem dM_open_18 : decode cM_open 18 = .ok (.ireturn, 1) := by decide +kernel
noncomputable def M_open (F : Nat) (τ : MS) (v1 : Int32) : Option (Int32) := if (m_rows τ) ≤ v1 then some (4 : Int32) else gd (vp_in v1 5) (some ((m_pivot τ) v1.toNatClampNeg))
set_option maxHeartbeats 4000000 in
set_option maxRecDepth 100000 in
theorem met_M_open (κ : ctx) (X : Nat → va_E) (F : Nat) (τ : MS) (v1 : Int32) {out : Int32} (h : M_open F τ v1 = some out) : Mt yM_open cM_open 2 (some .int) rm_M_open κ [.ref (κ.1 0), .int v1] (LM κ τ X) (some (.int out)) (LM κ τ X) := by
  refine Mt.of (by decide) (Nat.le_of_ble_eq_true rfl) ?_
  intro g G Fh
  unfold M_open at h
  show J g κ 2 0 [(0, .ref (κ.1 0)), (1, .int v1)] [] (LM κ τ X)
  refine w_iload_n (pc := 0) (q := 1) G dM_open_0 rfl rfl ?_
  refine w_aload_n (pc := 1) (q := 0) G dM_open_1 rfl rfl ?_
  refine w_get (pc := 2) (v := .int (m_rows τ)) (fs := mfl κ τ) G 0 (by decide) rfl rfl wsM_ok 4 (by decide) wd494 rfl dM_open_2 ?_
  refine w_icmp_ge (pc := 5) (tgt := 17) G dM_open_5 (by decide) (fun c5 => ?_) (fun c5 => ?_)
  · have h := if_t c5 h
    refine w_iconst (pc := 17) (v := (4 : Int32)) G dM_open_17 (by decide) ?_
    obtain rfl := Option.some.inj h
    exact w_iret (pc := 18) G dM_open_18 Fh
  · have h := if_f c5 h
    refine w_aload_n (pc := 8) (q := 0) G dM_open_8 rfl rfl ?_
    refine w_get (pc := 9) (v := .ref (κ.1 3)) (fs := mfl κ τ) G 0 (by decide) rfl rfl wsM_ok 6 (by decide) wd496 rfl dM_open_9 ?_
    refine w_iload_n (pc := 12) (q := 1) G dM_open_12 rfl rfl ?_
    obtain ⟨i13, h⟩ := gd_some h
    refine w_iald (pc := 13) (n := 5) (f := (m_pivot τ)) G 3 (by decide) rfl i13 dM_open_13 ?_
    refine w_goto (pc := 14) (tgt := 18) G dM_open_14 (by decide) ?_
    obtain rfl := Option.some.inj h
    exact w_iret (pc := 18) G dM_open_18 Fh
end
section
def rm_M_before : Room := { frames := 0, cells := 0, slots := 0, locals := 0 }
theorem dM_before_0 : decode cM_before 0 = .ok (.lload_n 2, 1) := by decide +kernel
theorem dM_before_1 : decode cM_before 1 = .ok (.aload_n 0, 1) := by decide +kernel
theorem dM_before_2 : decode cM_before 2 = .ok (.getfield 41, 3) := by decide +kernel
theorem dM_before_5 : decode cM_before 5 = .ok (.iload 4, 2) := by decide +kernel
theorem dM_before_7 : decode cM_before 7 = .ok (.laload, 1) := by decide +kernel
theorem dM_before_8 : decode cM_before 8 = .ok (.lcmp, 1) := by decide +kernel
theorem dM_before_9 : decode cM_before 9 = .ok (.ifCond .eq 21, 3) := by decide +kernel
theorem dM_before_12 : decode cM_before 12 = .ok (.lload_n 2, 1) := by decide +kernel
theorem dM_before_13 : decode cM_before 13 = .ok (.aload_n 0, 1) := by decide +kernel
theorem dM_before_14 : decode cM_before 14 = .ok (.getfield 41, 3) := by decide +kernel
theorem dM_before_17 : decode cM_before 17 = .ok (.iload 4, 2) := by decide +kernel
theorem dM_before_19 : decode cM_before 19 = .ok (.laload, 1) := by decide +kernel
theorem dM_before_20 : decode cM_before 20 = .ok (.lcmp, 1) := by decide +kernel
theorem dM_before_21 : decode cM_before 21 = .ok (.ifCond .ge 7, 3) := by decide +kernel
theorem dM_before_24 : decode cM_before 24 = .ok (.iconst 1, 1) := by decide +kernel
theorem dM_before_25 : decode cM_before 25 = .ok (.goto 4, 3) := by decide +kernel
theorem dM_before_28 : decode cM_before 28 = .ok (.iconst 0, 1) := by decide +kernel
theorem dM_before_29 : decode cM_before 29 = .ok (.ireturn, 1) := by decide +kernel
theorem dM_before_30 : decode cM_before 30 = .ok (.iconst 0, 1) := by decide +kernel
theorem dM_before_31 : decode cM_before 31 = .ok (.istore 5, 2) := by decide +kernel
theorem dM_before_33 : decode cM_before 33 = .ok (.iload 5, 2) := by decide +kernel
theorem dM_before_35 : decode cM_before 35 = .ok (.iconst 4, 1) := by decide +kernel
theorem dM_before_36 : decode cM_before 36 = .ok (.if_icmp .ge 65, 3) := by decide +kernel
theorem dM_before_39 : decode cM_before 39 = .ok (.aload_n 0, 1) := by decide +kernel
theorem dM_before_40 : decode cM_before 40 = .ok (.getfield 29, 3) := by decide +kernel
theorem dM_before_43 : decode cM_before 43 = .ok (.iload_n 1, 1) := by decide +kernel
theorem dM_before_44 : decode cM_before 44 = .ok (.iload 5, 2) := by decide +kernel
theorem dM_before_46 : decode cM_before 46 = .ok (.iadd, 1) := by decide +kernel
theorem dM_before_47 : decode cM_before 47 = .ok (.laload, 1) := by decide +kernel
theorem dM_before_48 : decode cM_before 48 = .ok (.aload_n 0, 1) := by decide +kernel
theorem dM_before_49 : decode cM_before 49 = .ok (.getfield 38, 3) := by decide +kernel
theorem dM_before_52 : decode cM_before 52 = .ok (.iconst 4, 1) := by decide +kernel
theorem dM_before_53 : decode cM_before 53 = .ok (.iload 4, 2) := by decide +kernel
theorem dM_before_55 : decode cM_before 55 = .ok (.imul, 1) := by decide +kernel
theorem dM_before_56 : decode cM_before 56 = .ok (.iload 5, 2) := by decide +kernel
theorem dM_before_58 : decode cM_before 58 = .ok (.iadd, 1) := by decide +kernel
theorem dM_before_59 : decode cM_before 59 = .ok (.laload, 1) := by decide +kernel
theorem dM_before_60 : decode cM_before 60 = .ok (.lcmp, 1) := by decide +kernel
theorem dM_before_61 : decode cM_before 61 = .ok (.ifCond .eq 34, 3) := by decide +kernel
theorem dM_before_64 : decode cM_before 64 = .ok (.aload_n 0, 1) := by decide +kernel
theorem dM_before_65 : decode cM_before 65 = .ok (.getfield 29, 3) := by decide +kernel
theorem dM_before_68 : decode cM_before 68 = .ok (.iload_n 1, 1) := by decide +kernel
theorem dM_before_69 : decode cM_before 69 = .ok (.iload 5, 2) := by decide +kernel
theorem dM_before_71 : decode cM_before 71 = .ok (.iadd, 1) := by decide +kernel
theorem dM_before_72 : decode cM_before 72 = .ok (.laload, 1) := by decide +kernel
theorem dM_before_73 : decode cM_before 73 = .ok (.aload_n 0, 1) := by decide +kernel
theorem dM_before_74 : decode cM_before 74 = .ok (.getfield 38, 3) := by decide +kernel
theorem dM_before_77 : decode cM_before 77 = .ok (.iconst 4, 1) := by decide +kernel
theorem dM_before_78 : decode cM_before 78 = .ok (.iload 4, 2) := by decide +kernel
theorem dM_before_80 : decode cM_before 80 = .ok (.imul, 1) := by decide +kernel
theorem dM_before_81 : decode cM_before 81 = .ok (.iload 5, 2) := by decide +kernel
theorem dM_before_83 : decode cM_before 83 = .ok (.iadd, 1) := by decide +kernel
theorem dM_before_84 : decode cM_before 84 = .ok (.laload, 1) := by decide +kernel
theorem dM_before_85 : decode cM_before 85 = .ok (.lcmp, 1) := by decide +kernel
theorem dM_before_86 : decode cM_before 86 = .ok (.ifCond .ge 7, 3) := by decide +kernel
theorem dM_before_89 : decode cM_before 89 = .ok (.iconst 1, 1) := by decide +kernel
theorem dM_before_90 : decode cM_before 90 = .ok (.goto 4, 3) := by decide +kernel
theorem dM_before_93 : decode cM_before 93 = .ok (.iconst 0, 1) := by decide +kernel
theorem dM_before_94 : decode cM_before 94 = .ok (.ireturn, 1) := by decide +kernel
theorem dM_before_95 : decode cM_before 95 = .ok (.iinc 5 1, 3) := by decide +kernel
theorem dM_before_98 : decode cM_before 98 = .ok (.goto (-65), 3) := by decide +kernel
theorem dM_before_101 : decode cM_before 101 = .ok (.iconst 0, 1) := by decide +kernel
theorem dM_before_102 : decode cM_before 102 = .ok (.ireturn, 1) := by decide +kernel
noncomputable def lM_before_33 (F : Nat) (τ : MS) (v1 : Int32) (v4 : Int32) : Nat → Int32 → Option ((Unit) ⊕ (Int32))
  | 0, _ => none
  | n + 1, v5 => if (4 : Int32) ≤ v5 then some (.inl ()) else gd (vp_in (v1 + v5) 20) (gd (vp_in (((4 : Int32) * v4) + v5) 164) (if ((m_made τ) (v1 + v5).toNatClampNeg) = ((m_first τ) (((4 : Int32) * v4) + v5).toNatClampNeg) then lM_before_33 F τ v1 v4 n (v5 + 1) else gd (vp_in (v1 + v5) 20) (gd (vp_in (((4 : Int32) * v4) + v5) 164) (if ((m_first τ) (((4 : Int32) * v4) + v5).toNatClampNeg) ≤ ((m_made τ) (v1 + v5).toNatClampNeg) then some (.inr (0 : Int32)) else some (.inr (1 : Int32))))))
set_option maxHeartbeats 4000000 in
set_option maxRecDepth 100000 in
theorem lM_before_33_ok {g : Gm} {κ : ctx} (G : OK g κ RM cM_before 6 (some .boolean) rm_M_before) (X : Nat → va_E) (F : Nat) (τ : MS) (v1 : Int32) (v4 : Int32) : ∀ (n : Nat) (v5 : Int32) (out : (Unit) ⊕ (Int32)), lM_before_33 F τ v1 v4 n v5 = some out → (∀ e, out = .inl e → J g κ 6 101 [] [] (LM κ τ X)) → (∀ r, out = .inr r → Fn g κ (some (.int r)) (LM κ τ X)) → J g κ 6 33 [(0, .ref (κ.1 0)), (1, .int v1), (4, .int v4), (5, .int v5)] [] (LM κ τ X) := by
  intro n
  induction n with
  | zero =>
    intro v5
    intro out h
    rw [lM_before_33] at h
    cases h
  | succ n ih =>
    intro v5 out h K K2
    rw [lM_before_33] at h
    refine w_iload (pc := 33) (q := 3) G dM_before_33 rfl ?_
    refine w_iconst (pc := 35) (v := (4 : Int32)) G dM_before_35 (by decide) ?_
    refine w_icmp_ge (pc := 36) (tgt := 101) G dM_before_36 (by decide) (fun c36 => ?_) (fun c36 => ?_)
    · have h := if_t c36 h
      obtain rfl := Option.some.inj h
      refine w_sub (lv' := []) [] rfl ?_
      exact K _ rfl
    · have h := if_f c36 h
      refine w_aload_n (pc := 39) (q := 0) G dM_before_39 rfl rfl ?_
      refine w_get (pc := 40) (v := .ref (κ.1 7)) (fs := mfl κ τ) G 0 (by decide) rfl rfl wsM_ok 10 (by decide) wd500 rfl dM_before_40 ?_
      refine w_iload_n (pc := 43) (q := 1) G dM_before_43 rfl rfl ?_
      refine w_iload (pc := 44) (q := 3) G dM_before_44 rfl ?_
      refine w_iadd (pc := 46) G dM_before_46 ?_
      obtain ⟨i47, h⟩ := gd_some h
      refine w_lald (pc := 47) (n := 20) (f := (m_made τ)) G 7 (by decide) rfl i47 dM_before_47 ?_
      refine w_aload_n (pc := 48) (q := 0) G dM_before_48 rfl rfl ?_
      refine w_get (pc := 49) (v := .ref (κ.1 10)) (fs := mfl κ τ) G 0 (by decide) rfl rfl wsM_ok 18 (by decide) wd508 rfl dM_before_49 ?_
      refine w_iconst (pc := 52) (v := (4 : Int32)) G dM_before_52 (by decide) ?_
      refine w_iload (pc := 53) (q := 2) G dM_before_53 rfl ?_
      refine w_imul (pc := 55) G dM_before_55 ?_
      refine w_iload (pc := 56) (q := 3) G dM_before_56 rfl ?_
      refine w_iadd (pc := 58) G dM_before_58 ?_
      obtain ⟨i59, h⟩ := gd_some h
      refine w_lald (pc := 59) (n := 164) (f := (m_first τ)) G 10 (by decide) rfl i59 dM_before_59 ?_
      refine w_lc_eq (pc := 60) (tgt := 95) G dM_before_60 dM_before_61 (by decide) (fun c60 => ?_) (fun c60 => ?_)
      · have h := if_t c60 h
        refine w_iinc (pc := 95) (q0 := 3) (v := (v5 + 1)) (lv' := [(5, .int (v5 + 1)), (0, .ref (κ.1 0)), (1, .int v1), (4, .int v4)]) G dM_before_95 rfl rfl (by decide) rfl ?_
        refine w_goto (pc := 98) (tgt := 33) G dM_before_98 (by decide) ?_
        refine w_sub (lv' := [(0, .ref (κ.1 0)), (1, .int v1), (4, .int v4), (5, .int (v5 + 1))]) [1, 2, 3, 0] rfl ?_
        exact ih (v5 + 1) out h K K2
      · have h := if_f c60 h
        refine w_aload_n (pc := 64) (q := 0) G dM_before_64 rfl rfl ?_
        refine w_get (pc := 65) (v := .ref (κ.1 7)) (fs := mfl κ τ) G 0 (by decide) rfl rfl wsM_ok 10 (by decide) wd500 rfl dM_before_65 ?_
        refine w_iload_n (pc := 68) (q := 1) G dM_before_68 rfl rfl ?_
        refine w_iload (pc := 69) (q := 3) G dM_before_69 rfl ?_
        refine w_iadd (pc := 71) G dM_before_71 ?_
        obtain ⟨i72, h⟩ := gd_some h
        refine w_lald (pc := 72) (n := 20) (f := (m_made τ)) G 7 (by decide) rfl i72 dM_before_72 ?_
        refine w_aload_n (pc := 73) (q := 0) G dM_before_73 rfl rfl ?_
        refine w_get (pc := 74) (v := .ref (κ.1 10)) (fs := mfl κ τ) G 0 (by decide) rfl rfl wsM_ok 18 (by decide) wd508 rfl dM_before_74 ?_
        refine w_iconst (pc := 77) (v := (4 : Int32)) G dM_before_77 (by decide) ?_
        refine w_iload (pc := 78) (q := 2) G dM_before_78 rfl ?_
        refine w_imul (pc := 80) G dM_before_80 ?_
        refine w_iload (pc := 81) (q := 3) G dM_before_81 rfl ?_
        refine w_iadd (pc := 83) G dM_before_83 ?_
        obtain ⟨i84, h⟩ := gd_some h
        refine w_lald (pc := 84) (n := 164) (f := (m_first τ)) G 10 (by decide) rfl i84 dM_before_84 ?_
        refine w_lc_ge (pc := 85) (tgt := 93) G dM_before_85 dM_before_86 (by decide) (fun c85 => ?_) (fun c85 => ?_)
        · have h := if_t c85 h
          refine w_iconst (pc := 93) (v := (0 : Int32)) G dM_before_93 (by decide) ?_
          obtain rfl := Option.some.inj h
          exact w_zret (pc := 94) G rfl dM_before_94 (K2 _ rfl)
        · have h := if_f c85 h
          refine w_iconst (pc := 89) (v := (1 : Int32)) G dM_before_89 (by decide) ?_
          refine w_goto (pc := 90) (tgt := 94) G dM_before_90 (by decide) ?_
          obtain rfl := Option.some.inj h
          exact w_zret (pc := 94) G rfl dM_before_94 (K2 _ rfl)
noncomputable def M_before (F : Nat) (τ : MS) (v1 : Int32) (v2 : Int64) (v4 : Int32) : Option (Int32) := gd (vp_in v4 41) (if v2 = ((m_squares τ) v4.toNatClampNeg) then (lM_before_33 F τ v1 v4 F (0 : Int32)).bind (fun o33_9 => match o33_9 with | .inl o33_9 => some (0 : Int32) | .inr o33_9 => some o33_9) else gd (vp_in v4 41) (if ((m_squares τ) v4.toNatClampNeg) ≤ v2 then some (0 : Int32) else some (1 : Int32)))
set_option maxHeartbeats 4000000 in
set_option maxRecDepth 100000 in
theorem met_M_before (κ : ctx) (X : Nat → va_E) (F : Nat) (τ : MS) (v1 : Int32) (v2 : Int64) (v4 : Int32) {out : Int32} (h : M_before F τ v1 v2 v4 = some out) : Mt yM_before cM_before 6 (some .boolean) rm_M_before κ [.ref (κ.1 0), .int v1, .long v2, .int v4] (LM κ τ X) (some (.int out)) (LM κ τ X) := by
  refine Mt.of (by decide) (Nat.le_of_ble_eq_true rfl) ?_
  intro g G Fh
  unfold M_before at h
  show J g κ 6 0 [(0, .ref (κ.1 0)), (1, .int v1), (2, .long v2), (4, .int v4)] [] (LM κ τ X)
  refine w_lload_n (pc := 0) (q := 2) G dM_before_0 rfl rfl ?_
  refine w_aload_n (pc := 1) (q := 0) G dM_before_1 rfl rfl ?_
  refine w_get (pc := 2) (v := .ref (κ.1 11)) (fs := mfl κ τ) G 0 (by decide) rfl rfl wsM_ok 19 (by decide) wd509 rfl dM_before_2 ?_
  refine w_iload (pc := 5) (q := 3) G dM_before_5 rfl ?_
  obtain ⟨i7, h⟩ := gd_some h
  refine w_lald (pc := 7) (n := 41) (f := (m_squares τ)) G 11 (by decide) rfl i7 dM_before_7 ?_
  refine w_lc_eq (pc := 8) (tgt := 30) G dM_before_8 dM_before_9 (by decide) (fun c8 => ?_) (fun c8 => ?_)
  · have h := if_t c8 h
    refine w_iconst (pc := 30) (v := (0 : Int32)) G dM_before_30 (by decide) ?_
    refine w_istore (pc := 31) (lv' := [(5, .int (0 : Int32)), (0, .ref (κ.1 0)), (1, .int v1), (2, .long v2), (4, .int v4)]) G dM_before_31 (by decide) rfl ?_
    refine w_sub (lv' := [(0, .ref (κ.1 0)), (1, .int v1), (4, .int v4), (5, .int (0 : Int32))]) [1, 2, 4, 0] rfl ?_
    obtain ⟨o33_9, eo33_9, h⟩ := bd h
    rcases o33_9 with o33_9 | o33_9
    · refine lM_before_33_ok G X F τ v1 v4 F (0 : Int32) (.inl o33_9) eo33_9 (fun e he => ?_) (fun r he => by cases he)
      cases he
      dsimp only at h
      refine w_iconst (pc := 101) (v := (0 : Int32)) G dM_before_101 (by decide) ?_
      obtain rfl := Option.some.inj h
      exact w_zret (pc := 102) G rfl dM_before_102 Fh
    · refine lM_before_33_ok G X F τ v1 v4 F (0 : Int32) (.inr o33_9) eo33_9 (fun e he => by cases he) (fun r he => ?_)
      cases he
      dsimp only at h
      obtain rfl := Option.some.inj h
      exact Fh
  · have h := if_f c8 h
    refine w_lload_n (pc := 12) (q := 2) G dM_before_12 rfl rfl ?_
    refine w_aload_n (pc := 13) (q := 0) G dM_before_13 rfl rfl ?_
    refine w_get (pc := 14) (v := .ref (κ.1 11)) (fs := mfl κ τ) G 0 (by decide) rfl rfl wsM_ok 19 (by decide) wd509 rfl dM_before_14 ?_
    refine w_iload (pc := 17) (q := 3) G dM_before_17 rfl ?_
    obtain ⟨i19, h⟩ := gd_some h
    refine w_lald (pc := 19) (n := 41) (f := (m_squares τ)) G 11 (by decide) rfl i19 dM_before_19 ?_
    refine w_lc_ge (pc := 20) (tgt := 28) G dM_before_20 dM_before_21 (by decide) (fun c20 => ?_) (fun c20 => ?_)
    · have h := if_t c20 h
      refine w_iconst (pc := 28) (v := (0 : Int32)) G dM_before_28 (by decide) ?_
      obtain rfl := Option.some.inj h
      exact w_zret (pc := 29) G rfl dM_before_29 Fh
    · have h := if_f c20 h
      refine w_iconst (pc := 24) (v := (1 : Int32)) G dM_before_24 (by decide) ?_
      refine w_goto (pc := 25) (tgt := 29) G dM_before_25 (by decide) ?_
      obtain rfl := Option.some.inj h
      exact w_zret (pc := 29) G rfl dM_before_29 Fh
def rm_M_sortIn : Room := { frames := 1, cells := 0, slots := 0, locals := 25 }
theorem dM_sortIn_0 : decode cM_sortIn 0 = .ok (.aload_n 0, 1) := by decide +kernel
theorem dM_sortIn_1 : decode cM_sortIn 1 = .ok (.getfield 187, 3) := by decide +kernel
theorem dM_sortIn_4 : decode cM_sortIn 4 = .ok (.istore 4, 2) := by decide +kernel
theorem dM_sortIn_6 : decode cM_sortIn 6 = .ok (.iload 4, 2) := by decide +kernel
theorem dM_sortIn_8 : decode cM_sortIn 8 = .ok (.ifCond .le 86, 3) := by decide +kernel
theorem dM_sortIn_11 : decode cM_sortIn 11 = .ok (.aload_n 0, 1) := by decide +kernel
theorem dM_sortIn_12 : decode cM_sortIn 12 = .ok (.iload_n 1, 1) := by decide +kernel
theorem dM_sortIn_13 : decode cM_sortIn 13 = .ok (.lload_n 2, 1) := by decide +kernel
theorem dM_sortIn_14 : decode cM_sortIn 14 = .ok (.iload 4, 2) := by decide +kernel
theorem dM_sortIn_16 : decode cM_sortIn 16 = .ok (.iconst 1, 1) := by decide +kernel
theorem dM_sortIn_17 : decode cM_sortIn 17 = .ok (.isub, 1) := by decide +kernel
theorem dM_sortIn_18 : decode cM_sortIn 18 = .ok (.invokevirtual 190, 3) := by decide +kernel
theorem dM_sortIn_21 : decode cM_sortIn 21 = .ok (.ifCond .eq 73, 3) := by decide +kernel
theorem dM_sortIn_24 : decode cM_sortIn 24 = .ok (.iload 4, 2) := by decide +kernel
theorem dM_sortIn_26 : decode cM_sortIn 26 = .ok (.bipush 41, 2) := by decide +kernel
theorem dM_sortIn_28 : decode cM_sortIn 28 = .ok (.if_icmp .ge 60, 3) := by decide +kernel
theorem dM_sortIn_31 : decode cM_sortIn 31 = .ok (.aload_n 0, 1) := by decide +kernel
theorem dM_sortIn_32 : decode cM_sortIn 32 = .ok (.getfield 41, 3) := by decide +kernel
theorem dM_sortIn_35 : decode cM_sortIn 35 = .ok (.iload 4, 2) := by decide +kernel
theorem dM_sortIn_37 : decode cM_sortIn 37 = .ok (.aload_n 0, 1) := by decide +kernel
theorem dM_sortIn_38 : decode cM_sortIn 38 = .ok (.getfield 41, 3) := by decide +kernel
theorem dM_sortIn_41 : decode cM_sortIn 41 = .ok (.iload 4, 2) := by decide +kernel
theorem dM_sortIn_43 : decode cM_sortIn 43 = .ok (.iconst 1, 1) := by decide +kernel
theorem dM_sortIn_44 : decode cM_sortIn 44 = .ok (.isub, 1) := by decide +kernel
theorem dM_sortIn_45 : decode cM_sortIn 45 = .ok (.laload, 1) := by decide +kernel
theorem dM_sortIn_46 : decode cM_sortIn 46 = .ok (.lastore, 1) := by decide +kernel
theorem dM_sortIn_47 : decode cM_sortIn 47 = .ok (.iconst 0, 1) := by decide +kernel
theorem dM_sortIn_48 : decode cM_sortIn 48 = .ok (.istore 5, 2) := by decide +kernel
theorem dM_sortIn_50 : decode cM_sortIn 50 = .ok (.iload 5, 2) := by decide +kernel
theorem dM_sortIn_52 : decode cM_sortIn 52 = .ok (.iconst 4, 1) := by decide +kernel
theorem dM_sortIn_53 : decode cM_sortIn 53 = .ok (.if_icmp .ge 35, 3) := by decide +kernel
theorem dM_sortIn_56 : decode cM_sortIn 56 = .ok (.aload_n 0, 1) := by decide +kernel
theorem dM_sortIn_57 : decode cM_sortIn 57 = .ok (.getfield 38, 3) := by decide +kernel
theorem dM_sortIn_60 : decode cM_sortIn 60 = .ok (.iconst 4, 1) := by decide +kernel
theorem dM_sortIn_61 : decode cM_sortIn 61 = .ok (.iload 4, 2) := by decide +kernel
theorem dM_sortIn_63 : decode cM_sortIn 63 = .ok (.imul, 1) := by decide +kernel
theorem dM_sortIn_64 : decode cM_sortIn 64 = .ok (.iload 5, 2) := by decide +kernel
theorem dM_sortIn_66 : decode cM_sortIn 66 = .ok (.iadd, 1) := by decide +kernel
theorem dM_sortIn_67 : decode cM_sortIn 67 = .ok (.aload_n 0, 1) := by decide +kernel
theorem dM_sortIn_68 : decode cM_sortIn 68 = .ok (.getfield 38, 3) := by decide +kernel
theorem dM_sortIn_71 : decode cM_sortIn 71 = .ok (.iconst 4, 1) := by decide +kernel
theorem dM_sortIn_72 : decode cM_sortIn 72 = .ok (.iload 4, 2) := by decide +kernel
theorem dM_sortIn_74 : decode cM_sortIn 74 = .ok (.imul, 1) := by decide +kernel
theorem dM_sortIn_75 : decode cM_sortIn 75 = .ok (.iconst 4, 1) := by decide +kernel
theorem dM_sortIn_76 : decode cM_sortIn 76 = .ok (.isub, 1) := by decide +kernel
theorem dM_sortIn_77 : decode cM_sortIn 77 = .ok (.iload 5, 2) := by decide +kernel
theorem dM_sortIn_79 : decode cM_sortIn 79 = .ok (.iadd, 1) := by decide +kernel
theorem dM_sortIn_80 : decode cM_sortIn 80 = .ok (.laload, 1) := by decide +kernel
theorem dM_sortIn_81 : decode cM_sortIn 81 = .ok (.lastore, 1) := by decide +kernel
theorem dM_sortIn_82 : decode cM_sortIn 82 = .ok (.iinc 5 1, 3) := by decide +kernel
theorem dM_sortIn_85 : decode cM_sortIn 85 = .ok (.goto (-35), 3) := by decide +kernel
theorem dM_sortIn_88 : decode cM_sortIn 88 = .ok (.iinc 4 (-1), 3) := by decide +kernel
theorem dM_sortIn_91 : decode cM_sortIn 91 = .ok (.goto (-85), 3) := by decide +kernel
theorem dM_sortIn_94 : decode cM_sortIn 94 = .ok (.iload 4, 2) := by decide +kernel
theorem dM_sortIn_96 : decode cM_sortIn 96 = .ok (.bipush 41, 2) := by decide +kernel
theorem dM_sortIn_98 : decode cM_sortIn 98 = .ok (.if_icmp .ge 73, 3) := by decide +kernel
theorem dM_sortIn_101 : decode cM_sortIn 101 = .ok (.aload_n 0, 1) := by decide +kernel
theorem dM_sortIn_102 : decode cM_sortIn 102 = .ok (.getfield 41, 3) := by decide +kernel
theorem dM_sortIn_105 : decode cM_sortIn 105 = .ok (.iload 4, 2) := by decide +kernel
theorem dM_sortIn_107 : decode cM_sortIn 107 = .ok (.lload_n 2, 1) := by decide +kernel
theorem dM_sortIn_108 : decode cM_sortIn 108 = .ok (.lastore, 1) := by decide +kernel
theorem dM_sortIn_109 : decode cM_sortIn 109 = .ok (.iconst 0, 1) := by decide +kernel
theorem dM_sortIn_110 : decode cM_sortIn 110 = .ok (.istore 5, 2) := by decide +kernel
theorem dM_sortIn_112 : decode cM_sortIn 112 = .ok (.iload 5, 2) := by decide +kernel
theorem dM_sortIn_114 : decode cM_sortIn 114 = .ok (.iconst 4, 1) := by decide +kernel
theorem dM_sortIn_115 : decode cM_sortIn 115 = .ok (.if_icmp .ge 30, 3) := by decide +kernel
theorem dM_sortIn_118 : decode cM_sortIn 118 = .ok (.aload_n 0, 1) := by decide +kernel
theorem dM_sortIn_119 : decode cM_sortIn 119 = .ok (.getfield 38, 3) := by decide +kernel
theorem dM_sortIn_122 : decode cM_sortIn 122 = .ok (.iconst 4, 1) := by decide +kernel
theorem dM_sortIn_123 : decode cM_sortIn 123 = .ok (.iload 4, 2) := by decide +kernel
theorem dM_sortIn_125 : decode cM_sortIn 125 = .ok (.imul, 1) := by decide +kernel
theorem dM_sortIn_126 : decode cM_sortIn 126 = .ok (.iload 5, 2) := by decide +kernel
theorem dM_sortIn_128 : decode cM_sortIn 128 = .ok (.iadd, 1) := by decide +kernel
theorem dM_sortIn_129 : decode cM_sortIn 129 = .ok (.aload_n 0, 1) := by decide +kernel
theorem dM_sortIn_130 : decode cM_sortIn 130 = .ok (.getfield 29, 3) := by decide +kernel
theorem dM_sortIn_133 : decode cM_sortIn 133 = .ok (.iload_n 1, 1) := by decide +kernel
theorem dM_sortIn_134 : decode cM_sortIn 134 = .ok (.iload 5, 2) := by decide +kernel
theorem dM_sortIn_136 : decode cM_sortIn 136 = .ok (.iadd, 1) := by decide +kernel
theorem dM_sortIn_137 : decode cM_sortIn 137 = .ok (.laload, 1) := by decide +kernel
theorem dM_sortIn_138 : decode cM_sortIn 138 = .ok (.lastore, 1) := by decide +kernel
theorem dM_sortIn_139 : decode cM_sortIn 139 = .ok (.iinc 5 1, 3) := by decide +kernel
theorem dM_sortIn_142 : decode cM_sortIn 142 = .ok (.goto (-30), 3) := by decide +kernel
theorem dM_sortIn_145 : decode cM_sortIn 145 = .ok (.aload_n 0, 1) := by decide +kernel
theorem dM_sortIn_146 : decode cM_sortIn 146 = .ok (.aload_n 0, 1) := by decide +kernel
theorem dM_sortIn_147 : decode cM_sortIn 147 = .ok (.getfield 187, 3) := by decide +kernel
theorem dM_sortIn_150 : decode cM_sortIn 150 = .ok (.bipush 41, 2) := by decide +kernel
theorem dM_sortIn_152 : decode cM_sortIn 152 = .ok (.if_icmp .ge 12, 3) := by decide +kernel
theorem dM_sortIn_155 : decode cM_sortIn 155 = .ok (.aload_n 0, 1) := by decide +kernel
theorem dM_sortIn_156 : decode cM_sortIn 156 = .ok (.getfield 187, 3) := by decide +kernel
theorem dM_sortIn_159 : decode cM_sortIn 159 = .ok (.iconst 1, 1) := by decide +kernel
theorem dM_sortIn_160 : decode cM_sortIn 160 = .ok (.iadd, 1) := by decide +kernel
theorem dM_sortIn_161 : decode cM_sortIn 161 = .ok (.goto 7, 3) := by decide +kernel
theorem dM_sortIn_164 : decode cM_sortIn 164 = .ok (.aload_n 0, 1) := by decide +kernel
theorem dM_sortIn_165 : decode cM_sortIn 165 = .ok (.getfield 187, 3) := by decide +kernel
theorem dM_sortIn_168 : decode cM_sortIn 168 = .ok (.putfield 187, 3) := by decide +kernel
theorem dM_sortIn_171 : decode cM_sortIn 171 = .ok (.return_, 1) := by decide +kernel
theorem cb_M_before_M_sortIn : CB yM_before cM_before 6 (some .boolean) rm_M_before rm_M_sortIn 3 := ⟨wd689, wd8, by decide +kernel, rfl, rfl, by decide⟩
noncomputable def lM_sortIn_50 (F : Nat) (v1 : Int32) (v2 : Int64) (v4 : Int32) : Nat → Int32 → MS → Option (MS)
  | 0, _, _ => none
  | n + 1, v5, τ => if (4 : Int32) ≤ v5 then some (τ) else gd (vp_in ((((4 : Int32) * v4) - (4 : Int32)) + v5) 164) (gd (vp_in (((4 : Int32) * v4) + v5) 164) (lM_sortIn_50 F v1 v2 v4 n (v5 + 1) (s_first τ (vp_updL (m_first τ) (((4 : Int32) * v4) + v5).toNatClampNeg ((m_first τ) ((((4 : Int32) * v4) - (4 : Int32)) + v5).toNatClampNeg)))))
set_option maxHeartbeats 4000000 in
set_option maxRecDepth 100000 in
theorem lM_sortIn_50_ok {g : Gm} {κ : ctx} (G : OK g κ RM cM_sortIn 6 none rm_M_sortIn) (X : Nat → va_E) (F : Nat) (v1 : Int32) (v2 : Int64) (v4 : Int32) : ∀ (n : Nat) (v5 : Int32) (τ : MS) (out : MS), lM_sortIn_50 F v1 v2 v4 n v5 τ = some out → (J g κ 6 88 [(0, .ref (κ.1 0)), (1, .int v1), (2, .long v2), (4, .int v4)] [] (LM κ out X)) → J g κ 6 50 [(0, .ref (κ.1 0)), (1, .int v1), (2, .long v2), (4, .int v4), (5, .int v5)] [] (LM κ τ X) := by
  intro n
  induction n with
  | zero =>
    intro v5 τ
    intro out h
    rw [lM_sortIn_50] at h
    cases h
  | succ n ih =>
    intro v5 τ out h K
    rw [lM_sortIn_50] at h
    refine w_iload (pc := 50) (q := 4) G dM_sortIn_50 rfl ?_
    refine w_iconst (pc := 52) (v := (4 : Int32)) G dM_sortIn_52 (by decide) ?_
    refine w_icmp_ge (pc := 53) (tgt := 88) G dM_sortIn_53 (by decide) (fun c53 => ?_) (fun c53 => ?_)
    · have h := if_t c53 h
      obtain rfl := Option.some.inj h
      refine w_sub (lv' := [(0, .ref (κ.1 0)), (1, .int v1), (2, .long v2), (4, .int v4)]) [0, 1, 2, 3] rfl ?_
      exact K
    · have h := if_f c53 h
      refine w_aload_n (pc := 56) (q := 0) G dM_sortIn_56 rfl rfl ?_
      refine w_get (pc := 57) (v := .ref (κ.1 10)) (fs := mfl κ τ) G 0 (by decide) rfl rfl wsM_ok 18 (by decide) wd508 rfl dM_sortIn_57 ?_
      refine w_iconst (pc := 60) (v := (4 : Int32)) G dM_sortIn_60 (by decide) ?_
      refine w_iload (pc := 61) (q := 3) G dM_sortIn_61 rfl ?_
      refine w_imul (pc := 63) G dM_sortIn_63 ?_
      refine w_iload (pc := 64) (q := 4) G dM_sortIn_64 rfl ?_
      refine w_iadd (pc := 66) G dM_sortIn_66 ?_
      refine w_aload_n (pc := 67) (q := 0) G dM_sortIn_67 rfl rfl ?_
      refine w_get (pc := 68) (v := .ref (κ.1 10)) (fs := mfl κ τ) G 0 (by decide) rfl rfl wsM_ok 18 (by decide) wd508 rfl dM_sortIn_68 ?_
      refine w_iconst (pc := 71) (v := (4 : Int32)) G dM_sortIn_71 (by decide) ?_
      refine w_iload (pc := 72) (q := 3) G dM_sortIn_72 rfl ?_
      refine w_imul (pc := 74) G dM_sortIn_74 ?_
      refine w_iconst (pc := 75) (v := (4 : Int32)) G dM_sortIn_75 (by decide) ?_
      refine w_isub (pc := 76) G dM_sortIn_76 ?_
      refine w_iload (pc := 77) (q := 4) G dM_sortIn_77 rfl ?_
      refine w_iadd (pc := 79) G dM_sortIn_79 ?_
      obtain ⟨i80, h⟩ := gd_some h
      refine w_lald (pc := 80) (n := 164) (f := (m_first τ)) G 10 (by decide) rfl i80 dM_sortIn_80 ?_
      obtain ⟨i81, h⟩ := gd_some h
      refine w_last (pc := 81) (n := 164) (f := (m_first τ)) (L1 := (LM κ (s_first τ (vp_updL (m_first τ) (((4 : Int32) * v4) + v5).toNatClampNeg ((m_first τ) ((((4 : Int32) * v4) - (4 : Int32)) + v5).toNatClampNeg))) X)) G 10 (by decide) rfl i81 dM_sortIn_81 (LM_first κ τ X _) ?_
      refine w_iinc (pc := 82) (q0 := 4) (v := (v5 + 1)) (lv' := [(5, .int (v5 + 1)), (0, .ref (κ.1 0)), (1, .int v1), (2, .long v2), (4, .int v4)]) G dM_sortIn_82 rfl rfl (by decide) rfl ?_
      refine w_goto (pc := 85) (tgt := 50) G dM_sortIn_85 (by decide) ?_
      refine w_sub (lv' := [(0, .ref (κ.1 0)), (1, .int v1), (2, .long v2), (4, .int v4), (5, .int (v5 + 1))]) [1, 2, 3, 4, 0] rfl ?_
      exact ih (v5 + 1) (s_first τ (vp_updL (m_first τ) (((4 : Int32) * v4) + v5).toNatClampNeg ((m_first τ) ((((4 : Int32) * v4) - (4 : Int32)) + v5).toNatClampNeg))) out h K
noncomputable def lM_sortIn_6 (F : Nat) (v1 : Int32) (v2 : Int64) : Nat → Int32 → MS → Option (Int32 × MS)
  | 0, _, _ => none
  | n + 1, v4, τ => if v4 ≤ 0 then some (v4, τ) else (M_before F τ v1 v2 (v4 - (1 : Int32))).bind (fun r18 => if r18 = 0 then some (v4, τ) else if (41 : Int32) ≤ v4 then lM_sortIn_6 F v1 v2 n (v4 + (-1)) τ else gd (vp_in (v4 - (1 : Int32)) 41) (gd (vp_in v4 41) ((lM_sortIn_50 F v1 v2 v4 F (0 : Int32) (s_squares τ (vp_updL (m_squares τ) v4.toNatClampNeg ((m_squares τ) (v4 - (1 : Int32)).toNatClampNeg)))).bind (fun o50_11 => lM_sortIn_6 F v1 v2 n (v4 + (-1)) o50_11))))
set_option maxHeartbeats 4000000 in
set_option maxRecDepth 100000 in
theorem lM_sortIn_6_ok {g : Gm} {κ : ctx} (G : OK g κ RM cM_sortIn 6 none rm_M_sortIn) (X : Nat → va_E) (F : Nat) (v1 : Int32) (v2 : Int64) : ∀ (n : Nat) (v4 : Int32) (τ : MS) (out : Int32 × MS), lM_sortIn_6 F v1 v2 n v4 τ = some out → (J g κ 6 94 [(0, .ref (κ.1 0)), (1, .int v1), (2, .long v2), (4, .int out.1)] [] (LM κ out.2 X)) → J g κ 6 6 [(0, .ref (κ.1 0)), (1, .int v1), (2, .long v2), (4, .int v4)] [] (LM κ τ X) := by
  intro n
  induction n with
  | zero =>
    intro v4 τ
    intro out h
    rw [lM_sortIn_6] at h
    cases h
  | succ n ih =>
    intro v4 τ out h K
    rw [lM_sortIn_6] at h
    refine w_iload (pc := 6) (q := 3) G dM_sortIn_6 rfl ?_
    refine w_if_le (pc := 8) (tgt := 94) G dM_sortIn_8 (by decide) (fun c8 => ?_) (fun c8 => ?_)
    · have h := if_t c8 h
      obtain rfl := Option.some.inj h
      refine w_sub (lv' := [(0, .ref (κ.1 0)), (1, .int v1), (2, .long v2), (4, .int v4)]) [0, 1, 2, 3] rfl ?_
      exact K
    · have h := if_f c8 h
      refine w_aload_n (pc := 11) (q := 0) G dM_sortIn_11 rfl rfl ?_
      refine w_iload_n (pc := 12) (q := 1) G dM_sortIn_12 rfl rfl ?_
      refine w_lload_n (pc := 13) (q := 2) G dM_sortIn_13 rfl rfl ?_
      refine w_iload (pc := 14) (q := 3) G dM_sortIn_14 rfl ?_
      refine w_iconst (pc := 16) (v := (1 : Int32)) G dM_sortIn_16 (by decide) ?_
      refine w_isub (pc := 17) G dM_sortIn_17 ?_
      obtain ⟨r18, e18, h⟩ := bd h
      refine w_callV (pc := 18) (av := [.int v1, .long v2, .int (v4 - (1 : Int32))]) (rest := []) (v := some (.int r18)) (L' := (LM κ τ X)) (T := TM) (fs := mfl κ τ) G 0 0 27 (by decide) rfl rfl cb_M_before_M_sortIn wd688 ws36 wd686 (met_M_before κ X F τ v1 v2 (v4 - (1 : Int32)) e18) rfl rfl rfl (Nat.le_of_ble_eq_true rfl) dM_sortIn_18 ?_
      refine w_if_eq (pc := 21) (tgt := 94) G dM_sortIn_21 (by decide) (fun c21 => ?_) (fun c21 => ?_)
      · have h := if_t c21 h
        obtain rfl := Option.some.inj h
        refine w_sub (lv' := [(0, .ref (κ.1 0)), (1, .int v1), (2, .long v2), (4, .int v4)]) [0, 1, 2, 3] rfl ?_
        exact K
      · have h := if_f c21 h
        refine w_iload (pc := 24) (q := 3) G dM_sortIn_24 rfl ?_
        refine w_bipush (pc := 26) (v := (41 : Int32)) G dM_sortIn_26 (by decide) ?_
        refine w_icmp_ge (pc := 28) (tgt := 88) G dM_sortIn_28 (by decide) (fun c28 => ?_) (fun c28 => ?_)
        · have h := if_t c28 h
          refine w_iinc (pc := 88) (q0 := 3) (v := (v4 + (-1))) (lv' := [(4, .int (v4 + (-1))), (0, .ref (κ.1 0)), (1, .int v1), (2, .long v2)]) G dM_sortIn_88 rfl rfl (by decide) rfl ?_
          refine w_goto (pc := 91) (tgt := 6) G dM_sortIn_91 (by decide) ?_
          refine w_sub (lv' := [(0, .ref (κ.1 0)), (1, .int v1), (2, .long v2), (4, .int (v4 + (-1)))]) [1, 2, 3, 0] rfl ?_
          exact ih (v4 + (-1)) τ out h K
        · have h := if_f c28 h
          refine w_aload_n (pc := 31) (q := 0) G dM_sortIn_31 rfl rfl ?_
          refine w_get (pc := 32) (v := .ref (κ.1 11)) (fs := mfl κ τ) G 0 (by decide) rfl rfl wsM_ok 19 (by decide) wd509 rfl dM_sortIn_32 ?_
          refine w_iload (pc := 35) (q := 3) G dM_sortIn_35 rfl ?_
          refine w_aload_n (pc := 37) (q := 0) G dM_sortIn_37 rfl rfl ?_
          refine w_get (pc := 38) (v := .ref (κ.1 11)) (fs := mfl κ τ) G 0 (by decide) rfl rfl wsM_ok 19 (by decide) wd509 rfl dM_sortIn_38 ?_
          refine w_iload (pc := 41) (q := 3) G dM_sortIn_41 rfl ?_
          refine w_iconst (pc := 43) (v := (1 : Int32)) G dM_sortIn_43 (by decide) ?_
          refine w_isub (pc := 44) G dM_sortIn_44 ?_
          obtain ⟨i45, h⟩ := gd_some h
          refine w_lald (pc := 45) (n := 41) (f := (m_squares τ)) G 11 (by decide) rfl i45 dM_sortIn_45 ?_
          obtain ⟨i46, h⟩ := gd_some h
          refine w_last (pc := 46) (n := 41) (f := (m_squares τ)) (L1 := (LM κ (s_squares τ (vp_updL (m_squares τ) v4.toNatClampNeg ((m_squares τ) (v4 - (1 : Int32)).toNatClampNeg))) X)) G 11 (by decide) rfl i46 dM_sortIn_46 (LM_squares κ τ X _) ?_
          refine w_iconst (pc := 47) (v := (0 : Int32)) G dM_sortIn_47 (by decide) ?_
          refine w_istore (pc := 48) (lv' := [(5, .int (0 : Int32)), (0, .ref (κ.1 0)), (1, .int v1), (2, .long v2), (4, .int v4)]) G dM_sortIn_48 (by decide) rfl ?_
          refine w_sub (lv' := [(0, .ref (κ.1 0)), (1, .int v1), (2, .long v2), (4, .int v4), (5, .int (0 : Int32))]) [1, 2, 3, 4, 0] rfl ?_
          obtain ⟨o50_11, eo50_11, h⟩ := bd h
          refine lM_sortIn_50_ok G X F v1 v2 v4 F (0 : Int32) (s_squares τ (vp_updL (m_squares τ) v4.toNatClampNeg ((m_squares τ) (v4 - (1 : Int32)).toNatClampNeg))) o50_11 eo50_11 ?_
          refine w_iinc (pc := 88) (q0 := 3) (v := (v4 + (-1))) (lv' := [(4, .int (v4 + (-1))), (0, .ref (κ.1 0)), (1, .int v1), (2, .long v2)]) G dM_sortIn_88 rfl rfl (by decide) rfl ?_
          refine w_goto (pc := 91) (tgt := 6) G dM_sortIn_91 (by decide) ?_
          refine w_sub (lv' := [(0, .ref (κ.1 0)), (1, .int v1), (2, .long v2), (4, .int (v4 + (-1)))]) [1, 2, 3, 0] rfl ?_
          exact ih (v4 + (-1)) o50_11 out h K
noncomputable def lM_sortIn_112 (F : Nat) (v1 : Int32) (v4 : Int32) : Nat → Int32 → MS → Option (MS)
  | 0, _, _ => none
  | n + 1, v5, τ => if (4 : Int32) ≤ v5 then some (τ) else gd (vp_in (v1 + v5) 20) (gd (vp_in (((4 : Int32) * v4) + v5) 164) (lM_sortIn_112 F v1 v4 n (v5 + 1) (s_first τ (vp_updL (m_first τ) (((4 : Int32) * v4) + v5).toNatClampNeg ((m_made τ) (v1 + v5).toNatClampNeg)))))
set_option maxHeartbeats 4000000 in
set_option maxRecDepth 100000 in
theorem lM_sortIn_112_ok {g : Gm} {κ : ctx} (G : OK g κ RM cM_sortIn 6 none rm_M_sortIn) (X : Nat → va_E) (F : Nat) (v1 : Int32) (v4 : Int32) : ∀ (n : Nat) (v5 : Int32) (τ : MS) (out : MS), lM_sortIn_112 F v1 v4 n v5 τ = some out → (J g κ 6 145 [(0, .ref (κ.1 0))] [] (LM κ out X)) → J g κ 6 112 [(0, .ref (κ.1 0)), (1, .int v1), (4, .int v4), (5, .int v5)] [] (LM κ τ X) := by
  intro n
  induction n with
  | zero =>
    intro v5 τ
    intro out h
    rw [lM_sortIn_112] at h
    cases h
  | succ n ih =>
    intro v5 τ out h K
    rw [lM_sortIn_112] at h
    refine w_iload (pc := 112) (q := 3) G dM_sortIn_112 rfl ?_
    refine w_iconst (pc := 114) (v := (4 : Int32)) G dM_sortIn_114 (by decide) ?_
    refine w_icmp_ge (pc := 115) (tgt := 145) G dM_sortIn_115 (by decide) (fun c115 => ?_) (fun c115 => ?_)
    · have h := if_t c115 h
      obtain rfl := Option.some.inj h
      refine w_sub (lv' := [(0, .ref (κ.1 0))]) [0] rfl ?_
      exact K
    · have h := if_f c115 h
      refine w_aload_n (pc := 118) (q := 0) G dM_sortIn_118 rfl rfl ?_
      refine w_get (pc := 119) (v := .ref (κ.1 10)) (fs := mfl κ τ) G 0 (by decide) rfl rfl wsM_ok 18 (by decide) wd508 rfl dM_sortIn_119 ?_
      refine w_iconst (pc := 122) (v := (4 : Int32)) G dM_sortIn_122 (by decide) ?_
      refine w_iload (pc := 123) (q := 2) G dM_sortIn_123 rfl ?_
      refine w_imul (pc := 125) G dM_sortIn_125 ?_
      refine w_iload (pc := 126) (q := 3) G dM_sortIn_126 rfl ?_
      refine w_iadd (pc := 128) G dM_sortIn_128 ?_
      refine w_aload_n (pc := 129) (q := 0) G dM_sortIn_129 rfl rfl ?_
      refine w_get (pc := 130) (v := .ref (κ.1 7)) (fs := mfl κ τ) G 0 (by decide) rfl rfl wsM_ok 10 (by decide) wd500 rfl dM_sortIn_130 ?_
      refine w_iload_n (pc := 133) (q := 1) G dM_sortIn_133 rfl rfl ?_
      refine w_iload (pc := 134) (q := 3) G dM_sortIn_134 rfl ?_
      refine w_iadd (pc := 136) G dM_sortIn_136 ?_
      obtain ⟨i137, h⟩ := gd_some h
      refine w_lald (pc := 137) (n := 20) (f := (m_made τ)) G 7 (by decide) rfl i137 dM_sortIn_137 ?_
      obtain ⟨i138, h⟩ := gd_some h
      refine w_last (pc := 138) (n := 164) (f := (m_first τ)) (L1 := (LM κ (s_first τ (vp_updL (m_first τ) (((4 : Int32) * v4) + v5).toNatClampNeg ((m_made τ) (v1 + v5).toNatClampNeg))) X)) G 10 (by decide) rfl i138 dM_sortIn_138 (LM_first κ τ X _) ?_
      refine w_iinc (pc := 139) (q0 := 3) (v := (v5 + 1)) (lv' := [(5, .int (v5 + 1)), (0, .ref (κ.1 0)), (1, .int v1), (4, .int v4)]) G dM_sortIn_139 rfl rfl (by decide) rfl ?_
      refine w_goto (pc := 142) (tgt := 112) G dM_sortIn_142 (by decide) ?_
      refine w_sub (lv' := [(0, .ref (κ.1 0)), (1, .int v1), (4, .int v4), (5, .int (v5 + 1))]) [1, 2, 3, 0] rfl ?_
      exact ih (v5 + 1) (s_first τ (vp_updL (m_first τ) (((4 : Int32) * v4) + v5).toNatClampNeg ((m_made τ) (v1 + v5).toNatClampNeg))) out h K
noncomputable def M_sortIn (F : Nat) (τ : MS) (v1 : Int32) (v2 : Int64) : Option (MS) := (lM_sortIn_6 F v1 v2 F (m_held τ) τ).bind (fun o6_11 => if (41 : Int32) ≤ o6_11.1 then some o6_11.2 else gd (vp_in o6_11.1 41) ((lM_sortIn_112 F v1 o6_11.1 F (0 : Int32) (s_squares o6_11.2 (vp_updL (m_squares o6_11.2) o6_11.1.toNatClampNeg v2))).bind (fun o112_16 => if (41 : Int32) ≤ (m_held o112_16) then some (s_held o112_16 ((m_held o112_16))) else some (s_held o112_16 (((m_held o112_16) + (1 : Int32)))))))
set_option maxHeartbeats 4000000 in
set_option maxRecDepth 100000 in
theorem met_M_sortIn (κ : ctx) (X : Nat → va_E) (F : Nat) (τ : MS) (v1 : Int32) (v2 : Int64) {out : MS} (h : M_sortIn F τ v1 v2 = some out) : Mt yM_sortIn cM_sortIn 6 none rm_M_sortIn κ [.ref (κ.1 0), .int v1, .long v2] (LM κ τ X) none (LM κ out X) := by
  refine Mt.of (by decide) (Nat.le_of_ble_eq_true rfl) ?_
  intro g G Fh
  unfold M_sortIn at h
  show J g κ 6 0 [(0, .ref (κ.1 0)), (1, .int v1), (2, .long v2)] [] (LM κ τ X)
  refine w_aload_n (pc := 0) (q := 0) G dM_sortIn_0 rfl rfl ?_
  refine w_get (pc := 1) (v := .int (m_held τ)) (fs := mfl κ τ) G 0 (by decide) rfl rfl wsM_ok 17 (by decide) wd507 rfl dM_sortIn_1 ?_
  refine w_istore (pc := 4) (lv' := [(4, .int (m_held τ)), (0, .ref (κ.1 0)), (1, .int v1), (2, .long v2)]) G dM_sortIn_4 (by decide) rfl ?_
  refine w_sub (lv' := [(0, .ref (κ.1 0)), (1, .int v1), (2, .long v2), (4, .int (m_held τ))]) [1, 2, 3, 0] rfl ?_
  obtain ⟨o6_11, eo6_11, h⟩ := bd h
  refine lM_sortIn_6_ok G X F v1 v2 F (m_held τ) τ o6_11 eo6_11 ?_
  refine w_iload (pc := 94) (q := 3) G dM_sortIn_94 rfl ?_
  refine w_bipush (pc := 96) (v := (41 : Int32)) G dM_sortIn_96 (by decide) ?_
  refine w_icmp_ge (pc := 98) (tgt := 171) G dM_sortIn_98 (by decide) (fun c98 => ?_) (fun c98 => ?_)
  · have h := if_t c98 h
    obtain rfl := Option.some.inj h
    exact w_vret (pc := 171) G dM_sortIn_171 Fh
  · have h := if_f c98 h
    refine w_aload_n (pc := 101) (q := 0) G dM_sortIn_101 rfl rfl ?_
    refine w_get (pc := 102) (v := .ref (κ.1 11)) (fs := mfl κ o6_11.2) G 0 (by decide) rfl rfl wsM_ok 19 (by decide) wd509 rfl dM_sortIn_102 ?_
    refine w_iload (pc := 105) (q := 3) G dM_sortIn_105 rfl ?_
    refine w_lload_n (pc := 107) (q := 2) G dM_sortIn_107 rfl rfl ?_
    obtain ⟨i108, h⟩ := gd_some h
    refine w_last (pc := 108) (n := 41) (f := (m_squares o6_11.2)) (L1 := (LM κ (s_squares o6_11.2 (vp_updL (m_squares o6_11.2) o6_11.1.toNatClampNeg v2)) X)) G 11 (by decide) rfl i108 dM_sortIn_108 (LM_squares κ o6_11.2 X _) ?_
    refine w_iconst (pc := 109) (v := (0 : Int32)) G dM_sortIn_109 (by decide) ?_
    refine w_istore (pc := 110) (lv' := [(5, .int (0 : Int32)), (0, .ref (κ.1 0)), (1, .int v1), (2, .long v2), (4, .int o6_11.1)]) G dM_sortIn_110 (by decide) rfl ?_
    refine w_sub (lv' := [(0, .ref (κ.1 0)), (1, .int v1), (4, .int o6_11.1), (5, .int (0 : Int32))]) [1, 2, 4, 0] rfl ?_
    obtain ⟨o112_16, eo112_16, h⟩ := bd h
    refine lM_sortIn_112_ok G X F v1 o6_11.1 F (0 : Int32) (s_squares o6_11.2 (vp_updL (m_squares o6_11.2) o6_11.1.toNatClampNeg v2)) o112_16 eo112_16 ?_
    refine w_aload_n (pc := 145) (q := 0) G dM_sortIn_145 rfl rfl ?_
    refine w_aload_n (pc := 146) (q := 0) G dM_sortIn_146 rfl rfl ?_
    refine w_get (pc := 147) (v := .int (m_held o112_16)) (fs := mfl κ o112_16) G 0 (by decide) rfl rfl wsM_ok 17 (by decide) wd507 rfl dM_sortIn_147 ?_
    refine w_bipush (pc := 150) (v := (41 : Int32)) G dM_sortIn_150 (by decide) ?_
    refine w_icmp_ge (pc := 152) (tgt := 164) G dM_sortIn_152 (by decide) (fun c152 => ?_) (fun c152 => ?_)
    · have h := if_t c152 h
      refine w_aload_n (pc := 164) (q := 0) G dM_sortIn_164 rfl rfl ?_
      refine w_get (pc := 165) (v := .int (m_held o112_16)) (fs := mfl κ o112_16) G 0 (by decide) rfl rfl wsM_ok 17 (by decide) wd507 rfl dM_sortIn_165 ?_
      refine w_put (pc := 168) (fs := mfl κ o112_16) (L1 := (LM κ (s_held o112_16 ((m_held o112_16))) X)) G 0 (by decide) rfl rfl wsM_ok tyM tyM_ok nmM 17 (by decide) wd507 rfl rfl rfl (Nat.le_of_ble_eq_true rfl) dM_sortIn_168 (LMf_held κ o112_16 X _) ?_
      obtain rfl := Option.some.inj h
      exact w_vret (pc := 171) G dM_sortIn_171 Fh
    · have h := if_f c152 h
      refine w_aload_n (pc := 155) (q := 0) G dM_sortIn_155 rfl rfl ?_
      refine w_get (pc := 156) (v := .int (m_held o112_16)) (fs := mfl κ o112_16) G 0 (by decide) rfl rfl wsM_ok 17 (by decide) wd507 rfl dM_sortIn_156 ?_
      refine w_iconst (pc := 159) (v := (1 : Int32)) G dM_sortIn_159 (by decide) ?_
      refine w_iadd (pc := 160) G dM_sortIn_160 ?_
      refine w_goto (pc := 161) (tgt := 168) G dM_sortIn_161 (by decide) ?_
      refine w_put (pc := 168) (fs := mfl κ o112_16) (L1 := (LM κ (s_held o112_16 (((m_held o112_16) + (1 : Int32)))) X)) G 0 (by decide) rfl rfl wsM_ok tyM tyM_ok nmM 17 (by decide) wd507 rfl rfl rfl (Nat.le_of_ble_eq_true rfl) dM_sortIn_168 (LMf_held κ o112_16 X _) ?_
      obtain rfl := Option.some.inj h
      exact w_vret (pc := 171) G dM_sortIn_171 Fh
def rm_M_lead : Room := { frames := 0, cells := 0, slots := 0, locals := 0 }
theorem dM_lead_0 : decode cM_lead 0 = .ok (.iconst 0, 1) := by decide +kernel
theorem dM_lead_1 : decode cM_lead 1 = .ok (.istore_n 2, 1) := by decide +kernel
theorem dM_lead_2 : decode cM_lead 2 = .ok (.aload_n 0, 1) := by decide +kernel
theorem dM_lead_3 : decode cM_lead 3 = .ok (.getfield 44, 3) := by decide +kernel
theorem dM_lead_6 : decode cM_lead 6 = .ok (.iload_n 1, 1) := by decide +kernel
theorem dM_lead_7 : decode cM_lead 7 = .ok (.iload_n 2, 1) := by decide +kernel
theorem dM_lead_8 : decode cM_lead 8 = .ok (.iadd, 1) := by decide +kernel
theorem dM_lead_9 : decode cM_lead 9 = .ok (.laload, 1) := by decide +kernel
theorem dM_lead_10 : decode cM_lead 10 = .ok (.lconst 0, 1) := by decide +kernel
theorem dM_lead_11 : decode cM_lead 11 = .ok (.lcmp, 1) := by decide +kernel
theorem dM_lead_12 : decode cM_lead 12 = .ok (.ifCond .ne 9, 3) := by decide +kernel
theorem dM_lead_15 : decode cM_lead 15 = .ok (.iinc 2 1, 3) := by decide +kernel
theorem dM_lead_18 : decode cM_lead 18 = .ok (.goto (-16), 3) := by decide +kernel
theorem dM_lead_21 : decode cM_lead 21 = .ok (.iload_n 2, 1) := by decide +kernel
theorem dM_lead_22 : decode cM_lead 22 = .ok (.ireturn, 1) := by decide +kernel
noncomputable def lM_lead_2 (F : Nat) (τ : MS) (v1 : Int32) : Nat → Int32 → Option (Int32)
  | 0, _ => none
  | n + 1, v2 => gd (vp_in (v1 + v2) 16) (if ((m_span τ) (v1 + v2).toNatClampNeg) = (0 : Int64) then lM_lead_2 F τ v1 n (v2 + 1) else some (v2))
set_option maxHeartbeats 4000000 in
set_option maxRecDepth 100000 in
theorem lM_lead_2_ok {g : Gm} {κ : ctx} (G : OK g κ RM cM_lead 3 (some .int) rm_M_lead) (X : Nat → va_E) (F : Nat) (τ : MS) (v1 : Int32) : ∀ (n : Nat) (v2 : Int32) (out : Int32), lM_lead_2 F τ v1 n v2 = some out → (J g κ 3 21 [(2, .int out)] [] (LM κ τ X)) → J g κ 3 2 [(0, .ref (κ.1 0)), (1, .int v1), (2, .int v2)] [] (LM κ τ X) := by
  intro n
  induction n with
  | zero =>
    intro v2
    intro out h
    rw [lM_lead_2] at h
    cases h
  | succ n ih =>
    intro v2 out h K
    rw [lM_lead_2] at h
    refine w_aload_n (pc := 2) (q := 0) G dM_lead_2 rfl rfl ?_
    refine w_get (pc := 3) (v := .ref (κ.1 12)) (fs := mfl κ τ) G 0 (by decide) rfl rfl wsM_ok 22 (by decide) wd512 rfl dM_lead_3 ?_
    refine w_iload_n (pc := 6) (q := 1) G dM_lead_6 rfl rfl ?_
    refine w_iload_n (pc := 7) (q := 2) G dM_lead_7 rfl rfl ?_
    refine w_iadd (pc := 8) G dM_lead_8 ?_
    obtain ⟨i9, h⟩ := gd_some h
    refine w_lald (pc := 9) (n := 16) (f := (m_span τ)) G 12 (by decide) rfl i9 dM_lead_9 ?_
    refine w_lconst (pc := 10) (v := (0 : Int64)) G dM_lead_10 (by decide) ?_
    refine w_lc_ne (pc := 11) (tgt := 21) G dM_lead_11 dM_lead_12 (by decide) (fun c11 => ?_) (fun c11 => ?_)
    · have h := if_t c11 h
      refine w_iinc (pc := 15) (q0 := 2) (v := (v2 + 1)) (lv' := [(2, .int (v2 + 1)), (0, .ref (κ.1 0)), (1, .int v1)]) G dM_lead_15 rfl rfl (by decide) rfl ?_
      refine w_goto (pc := 18) (tgt := 2) G dM_lead_18 (by decide) ?_
      refine w_sub (lv' := [(0, .ref (κ.1 0)), (1, .int v1), (2, .int (v2 + 1))]) [1, 2, 0] rfl ?_
      exact ih (v2 + 1) out h K
    · have h := if_f c11 h
      obtain rfl := Option.some.inj h
      refine w_sub (lv' := [(2, .int v2)]) [2] rfl ?_
      exact K
noncomputable def M_lead (F : Nat) (τ : MS) (v1 : Int32) : Option (Int32) := (lM_lead_2 F τ v1 F (0 : Int32)).bind (fun o2_4 => some o2_4)
set_option maxHeartbeats 4000000 in
set_option maxRecDepth 100000 in
theorem met_M_lead (κ : ctx) (X : Nat → va_E) (F : Nat) (τ : MS) (v1 : Int32) {out : Int32} (h : M_lead F τ v1 = some out) : Mt yM_lead cM_lead 3 (some .int) rm_M_lead κ [.ref (κ.1 0), .int v1] (LM κ τ X) (some (.int out)) (LM κ τ X) := by
  refine Mt.of (by decide) (Nat.le_of_ble_eq_true rfl) ?_
  intro g G Fh
  unfold M_lead at h
  show J g κ 3 0 [(0, .ref (κ.1 0)), (1, .int v1)] [] (LM κ τ X)
  refine w_iconst (pc := 0) (v := (0 : Int32)) G dM_lead_0 (by decide) ?_
  refine w_istore_n (pc := 1) (lv' := [(2, .int (0 : Int32)), (0, .ref (κ.1 0)), (1, .int v1)]) G dM_lead_1 rfl (by decide) rfl ?_
  refine w_sub (lv' := [(0, .ref (κ.1 0)), (1, .int v1), (2, .int (0 : Int32))]) [1, 2, 0] rfl ?_
  obtain ⟨o2_4, eo2_4, h⟩ := bd h
  refine lM_lead_2_ok G X F τ v1 F (0 : Int32) o2_4 eo2_4 ?_
  refine w_iload_n (pc := 21) (q := 0) G dM_lead_21 rfl rfl ?_
  obtain rfl := Option.some.inj h
  exact w_iret (pc := 22) G dM_lead_22 Fh
def rm_M_shrink : Room := { frames := 1, cells := 0, slots := 0, locals := 29 }
theorem dM_shrink_0 : decode cM_shrink 0 = .ok (.lconst 0, 1) := by decide +kernel
theorem dM_shrink_1 : decode cM_shrink 1 = .ok (.lstore_n 1, 1) := by decide +kernel
theorem dM_shrink_2 : decode cM_shrink 2 = .ok (.iconst 0, 1) := by decide +kernel
theorem dM_shrink_3 : decode cM_shrink 3 = .ok (.istore_n 3, 1) := by decide +kernel
theorem dM_shrink_4 : decode cM_shrink 4 = .ok (.iload_n 3, 1) := by decide +kernel
theorem dM_shrink_5 : decode cM_shrink 5 = .ok (.iconst 4, 1) := by decide +kernel
theorem dM_shrink_6 : decode cM_shrink 6 = .ok (.if_icmp .ge 20, 3) := by decide +kernel
theorem dM_shrink_9 : decode cM_shrink 9 = .ok (.lload_n 1, 1) := by decide +kernel
theorem dM_shrink_10 : decode cM_shrink 10 = .ok (.aload_n 0, 1) := by decide +kernel
theorem dM_shrink_11 : decode cM_shrink 11 = .ok (.getfield 20, 3) := by decide +kernel
theorem dM_shrink_14 : decode cM_shrink 14 = .ok (.iload_n 3, 1) := by decide +kernel
theorem dM_shrink_15 : decode cM_shrink 15 = .ok (.laload, 1) := by decide +kernel
theorem dM_shrink_16 : decode cM_shrink 16 = .ok (.invokestatic 104, 3) := by decide +kernel
theorem dM_shrink_19 : decode cM_shrink 19 = .ok (.lstore_n 1, 1) := by decide +kernel
theorem dM_shrink_20 : decode cM_shrink 20 = .ok (.iinc 3 1, 3) := by decide +kernel
theorem dM_shrink_23 : decode cM_shrink 23 = .ok (.goto (-19), 3) := by decide +kernel
theorem dM_shrink_26 : decode cM_shrink 26 = .ok (.iconst 0, 1) := by decide +kernel
theorem dM_shrink_27 : decode cM_shrink 27 = .ok (.istore_n 3, 1) := by decide +kernel
theorem dM_shrink_28 : decode cM_shrink 28 = .ok (.iload_n 3, 1) := by decide +kernel
theorem dM_shrink_29 : decode cM_shrink 29 = .ok (.iconst 4, 1) := by decide +kernel
theorem dM_shrink_30 : decode cM_shrink 30 = .ok (.if_icmp .ge 29, 3) := by decide +kernel
theorem dM_shrink_33 : decode cM_shrink 33 = .ok (.lload_n 1, 1) := by decide +kernel
theorem dM_shrink_34 : decode cM_shrink 34 = .ok (.lconst 1, 1) := by decide +kernel
theorem dM_shrink_35 : decode cM_shrink 35 = .ok (.lcmp, 1) := by decide +kernel
theorem dM_shrink_36 : decode cM_shrink 36 = .ok (.ifCond .le 23, 3) := by decide +kernel
theorem dM_shrink_39 : decode cM_shrink 39 = .ok (.aload_n 0, 1) := by decide +kernel
theorem dM_shrink_40 : decode cM_shrink 40 = .ok (.getfield 20, 3) := by decide +kernel
theorem dM_shrink_43 : decode cM_shrink 43 = .ok (.iload_n 3, 1) := by decide +kernel
theorem dM_shrink_44 : decode cM_shrink 44 = .ok (.aload_n 0, 1) := by decide +kernel
theorem dM_shrink_45 : decode cM_shrink 45 = .ok (.getfield 20, 3) := by decide +kernel
theorem dM_shrink_48 : decode cM_shrink 48 = .ok (.iload_n 3, 1) := by decide +kernel
theorem dM_shrink_49 : decode cM_shrink 49 = .ok (.laload, 1) := by decide +kernel
theorem dM_shrink_50 : decode cM_shrink 50 = .ok (.lload_n 1, 1) := by decide +kernel
theorem dM_shrink_51 : decode cM_shrink 51 = .ok (.ldiv, 1) := by decide +kernel
theorem dM_shrink_52 : decode cM_shrink 52 = .ok (.lastore, 1) := by decide +kernel
theorem dM_shrink_53 : decode cM_shrink 53 = .ok (.iinc 3 1, 3) := by decide +kernel
theorem dM_shrink_56 : decode cM_shrink 56 = .ok (.goto (-28), 3) := by decide +kernel
theorem dM_shrink_59 : decode cM_shrink 59 = .ok (.return_, 1) := by decide +kernel
theorem cb_M_common_M_shrink : CB yM_common cM_common 10 (some .long) rm_M_common rm_M_shrink 2 := ⟨wd652, wd8, by decide +kernel, rfl, rfl, by decide⟩
noncomputable def lM_shrink_4 (F : Nat) (τ : MS)  : Nat → Int64 → Int32 → Option (Int64)
  | 0, _, _ => none
  | n + 1, v1, v3 => if (4 : Int32) ≤ v3 then some (v1) else gd (vp_in v3 4) ((M_common F v1 ((m_fresh τ) v3.toNatClampNeg)).bind (fun r16 => lM_shrink_4 F τ n r16 (v3 + 1)))
set_option maxHeartbeats 4000000 in
set_option maxRecDepth 100000 in
theorem lM_shrink_4_ok {g : Gm} {κ : ctx} (G : OK g κ RM cM_shrink 4 none rm_M_shrink) (X : Nat → va_E) (F : Nat) (τ : MS)  : ∀ (n : Nat) (v1 : Int64) (v3 : Int32) (out : Int64), lM_shrink_4 F τ n v1 v3 = some out → (J g κ 4 26 [(0, .ref (κ.1 0)), (1, .long out)] [] (LM κ τ X)) → J g κ 4 4 [(0, .ref (κ.1 0)), (1, .long v1), (3, .int v3)] [] (LM κ τ X) := by
  intro n
  induction n with
  | zero =>
    intro v1 v3
    intro out h
    rw [lM_shrink_4] at h
    cases h
  | succ n ih =>
    intro v1 v3 out h K
    rw [lM_shrink_4] at h
    refine w_iload_n (pc := 4) (q := 2) G dM_shrink_4 rfl rfl ?_
    refine w_iconst (pc := 5) (v := (4 : Int32)) G dM_shrink_5 (by decide) ?_
    refine w_icmp_ge (pc := 6) (tgt := 26) G dM_shrink_6 (by decide) (fun c6 => ?_) (fun c6 => ?_)
    · have h := if_t c6 h
      obtain rfl := Option.some.inj h
      refine w_sub (lv' := [(0, .ref (κ.1 0)), (1, .long v1)]) [0, 1] rfl ?_
      exact K
    · have h := if_f c6 h
      refine w_lload_n (pc := 9) (q := 1) G dM_shrink_9 rfl rfl ?_
      refine w_aload_n (pc := 10) (q := 0) G dM_shrink_10 rfl rfl ?_
      refine w_get (pc := 11) (v := .ref (κ.1 4)) (fs := mfl κ τ) G 0 (by decide) rfl rfl wsM_ok 7 (by decide) wd497 rfl dM_shrink_11 ?_
      refine w_iload_n (pc := 14) (q := 2) G dM_shrink_14 rfl rfl ?_
      obtain ⟨i15, h⟩ := gd_some h
      refine w_lald (pc := 15) (n := 4) (f := (m_fresh τ)) G 4 (by decide) rfl i15 dM_shrink_15 ?_
      obtain ⟨r16, e16, h⟩ := bd h
      refine w_callS (pc := 16) (av := [.long v1, .long ((m_fresh τ) v3.toNatClampNeg)]) (rest := []) (v := some (.long r16)) (L' := (LM κ τ X)) G cb_M_common_M_shrink wd651 wd650 (met_M_common κ (LM κ τ X) F v1 ((m_fresh τ) v3.toNatClampNeg) e16) rfl rfl rfl (Nat.le_of_ble_eq_true rfl) dM_shrink_16 ?_
      refine w_lstore_n (pc := 19) (lv' := [(1, .long r16), (0, .ref (κ.1 0)), (3, .int v3)]) G dM_shrink_19 rfl (by decide) rfl ?_
      refine w_iinc (pc := 20) (q0 := 2) (v := (v3 + 1)) (lv' := [(3, .int (v3 + 1)), (1, .long r16), (0, .ref (κ.1 0))]) G dM_shrink_20 rfl rfl (by decide) rfl ?_
      refine w_goto (pc := 23) (tgt := 4) G dM_shrink_23 (by decide) ?_
      refine w_sub (lv' := [(0, .ref (κ.1 0)), (1, .long r16), (3, .int (v3 + 1))]) [2, 1, 0] rfl ?_
      exact ih r16 (v3 + 1) out h K
noncomputable def lM_shrink_28 (F : Nat) (v1 : Int64) : Nat → Int32 → MS → Option (MS)
  | 0, _, _ => none
  | n + 1, v3, τ => if (4 : Int32) ≤ v3 then some (τ) else if v1 ≤ (1 : Int64) then some (τ) else gd (vp_in v3 4) (gd (¬ v1 = 0) (gd (vp_in v3 4) (lM_shrink_28 F v1 n (v3 + 1) (s_fresh τ (vp_updL (m_fresh τ) v3.toNatClampNeg (((m_fresh τ) v3.toNatClampNeg) / v1))))))
set_option maxHeartbeats 4000000 in
set_option maxRecDepth 100000 in
theorem lM_shrink_28_ok {g : Gm} {κ : ctx} (G : OK g κ RM cM_shrink 4 none rm_M_shrink) (X : Nat → va_E) (F : Nat) (v1 : Int64) : ∀ (n : Nat) (v3 : Int32) (τ : MS) (out : MS), lM_shrink_28 F v1 n v3 τ = some out → (J g κ 4 59 [] [] (LM κ out X)) → J g κ 4 28 [(0, .ref (κ.1 0)), (1, .long v1), (3, .int v3)] [] (LM κ τ X) := by
  intro n
  induction n with
  | zero =>
    intro v3 τ
    intro out h
    rw [lM_shrink_28] at h
    cases h
  | succ n ih =>
    intro v3 τ out h K
    rw [lM_shrink_28] at h
    refine w_iload_n (pc := 28) (q := 2) G dM_shrink_28 rfl rfl ?_
    refine w_iconst (pc := 29) (v := (4 : Int32)) G dM_shrink_29 (by decide) ?_
    refine w_icmp_ge (pc := 30) (tgt := 59) G dM_shrink_30 (by decide) (fun c30 => ?_) (fun c30 => ?_)
    · have h := if_t c30 h
      obtain rfl := Option.some.inj h
      refine w_sub (lv' := []) [] rfl ?_
      exact K
    · have h := if_f c30 h
      refine w_lload_n (pc := 33) (q := 1) G dM_shrink_33 rfl rfl ?_
      refine w_lconst (pc := 34) (v := (1 : Int64)) G dM_shrink_34 (by decide) ?_
      refine w_lc_le (pc := 35) (tgt := 59) G dM_shrink_35 dM_shrink_36 (by decide) (fun c35 => ?_) (fun c35 => ?_)
      · have h := if_t c35 h
        obtain rfl := Option.some.inj h
        refine w_sub (lv' := []) [] rfl ?_
        exact K
      · have h := if_f c35 h
        refine w_aload_n (pc := 39) (q := 0) G dM_shrink_39 rfl rfl ?_
        refine w_get (pc := 40) (v := .ref (κ.1 4)) (fs := mfl κ τ) G 0 (by decide) rfl rfl wsM_ok 7 (by decide) wd497 rfl dM_shrink_40 ?_
        refine w_iload_n (pc := 43) (q := 2) G dM_shrink_43 rfl rfl ?_
        refine w_aload_n (pc := 44) (q := 0) G dM_shrink_44 rfl rfl ?_
        refine w_get (pc := 45) (v := .ref (κ.1 4)) (fs := mfl κ τ) G 0 (by decide) rfl rfl wsM_ok 7 (by decide) wd497 rfl dM_shrink_45 ?_
        refine w_iload_n (pc := 48) (q := 2) G dM_shrink_48 rfl rfl ?_
        obtain ⟨i49, h⟩ := gd_some h
        refine w_lald (pc := 49) (n := 4) (f := (m_fresh τ)) G 4 (by decide) rfl i49 dM_shrink_49 ?_
        refine w_lload_n (pc := 50) (q := 1) G dM_shrink_50 rfl rfl ?_
        obtain ⟨z51, h⟩ := gd_some h
        refine w_ldiv (pc := 51) G dM_shrink_51 z51 ?_
        obtain ⟨i52, h⟩ := gd_some h
        refine w_last (pc := 52) (n := 4) (f := (m_fresh τ)) (L1 := (LM κ (s_fresh τ (vp_updL (m_fresh τ) v3.toNatClampNeg (((m_fresh τ) v3.toNatClampNeg) / v1))) X)) G 4 (by decide) rfl i52 dM_shrink_52 (LM_fresh κ τ X _) ?_
        refine w_iinc (pc := 53) (q0 := 2) (v := (v3 + 1)) (lv' := [(3, .int (v3 + 1)), (0, .ref (κ.1 0)), (1, .long v1)]) G dM_shrink_53 rfl rfl (by decide) rfl ?_
        refine w_goto (pc := 56) (tgt := 28) G dM_shrink_56 (by decide) ?_
        refine w_sub (lv' := [(0, .ref (κ.1 0)), (1, .long v1), (3, .int (v3 + 1))]) [1, 2, 0] rfl ?_
        exact ih (v3 + 1) (s_fresh τ (vp_updL (m_fresh τ) v3.toNatClampNeg (((m_fresh τ) v3.toNatClampNeg) / v1))) out h K
noncomputable def M_shrink (F : Nat) (τ : MS)  : Option (MS) := (lM_shrink_4 F τ F (0 : Int64) (0 : Int32)).bind (fun o4_4 => (lM_shrink_28 F o4_4 F (0 : Int32) τ).bind (fun o28_9 => some o28_9))
set_option maxHeartbeats 4000000 in
set_option maxRecDepth 100000 in
theorem met_M_shrink (κ : ctx) (X : Nat → va_E) (F : Nat) (τ : MS)  {out : MS} (h : M_shrink F τ  = some out) : Mt yM_shrink cM_shrink 4 none rm_M_shrink κ [.ref (κ.1 0)] (LM κ τ X) none (LM κ out X) := by
  refine Mt.of (by decide) (Nat.le_of_ble_eq_true rfl) ?_
  intro g G Fh
  unfold M_shrink at h
  show J g κ 4 0 [(0, .ref (κ.1 0))] [] (LM κ τ X)
  refine w_lconst (pc := 0) (v := (0 : Int64)) G dM_shrink_0 (by decide) ?_
  refine w_lstore_n (pc := 1) (lv' := [(1, .long (0 : Int64)), (0, .ref (κ.1 0))]) G dM_shrink_1 rfl (by decide) rfl ?_
  refine w_iconst (pc := 2) (v := (0 : Int32)) G dM_shrink_2 (by decide) ?_
  refine w_istore_n (pc := 3) (lv' := [(3, .int (0 : Int32)), (1, .long (0 : Int64)), (0, .ref (κ.1 0))]) G dM_shrink_3 rfl (by decide) rfl ?_
  refine w_sub (lv' := [(0, .ref (κ.1 0)), (1, .long (0 : Int64)), (3, .int (0 : Int32))]) [2, 1, 0] rfl ?_
  obtain ⟨o4_4, eo4_4, h⟩ := bd h
  refine lM_shrink_4_ok G X F τ F (0 : Int64) (0 : Int32) o4_4 eo4_4 ?_
  refine w_iconst (pc := 26) (v := (0 : Int32)) G dM_shrink_26 (by decide) ?_
  refine w_istore_n (pc := 27) (lv' := [(3, .int (0 : Int32)), (0, .ref (κ.1 0)), (1, .long o4_4)]) G dM_shrink_27 rfl (by decide) rfl ?_
  refine w_sub (lv' := [(0, .ref (κ.1 0)), (1, .long o4_4), (3, .int (0 : Int32))]) [1, 2, 0] rfl ?_
  obtain ⟨o28_9, eo28_9, h⟩ := bd h
  refine lM_shrink_28_ok G X F o4_4 F (0 : Int32) τ o28_9 eo28_9 ?_
  obtain rfl := Option.some.inj h
  exact w_vret (pc := 59) G dM_shrink_59 Fh
def rm_M_extend : Room := { frames := 2, cells := 0, slots := 0, locals := 52 }
theorem dM_extend_0 : decode cM_extend 0 = .ok (.iconst 0, 1) := by decide +kernel
theorem dM_extend_1 : decode cM_extend 1 = .ok (.istore_n 2, 1) := by decide +kernel
theorem dM_extend_2 : decode cM_extend 2 = .ok (.iload_n 2, 1) := by decide +kernel
theorem dM_extend_3 : decode cM_extend 3 = .ok (.iconst 4, 1) := by decide +kernel
theorem dM_extend_4 : decode cM_extend 4 = .ok (.if_icmp .ge 23, 3) := by decide +kernel
theorem dM_extend_7 : decode cM_extend 7 = .ok (.aload_n 0, 1) := by decide +kernel
theorem dM_extend_8 : decode cM_extend 8 = .ok (.getfield 20, 3) := by decide +kernel
theorem dM_extend_11 : decode cM_extend 11 = .ok (.iload_n 2, 1) := by decide +kernel
theorem dM_extend_12 : decode cM_extend 12 = .ok (.aload_n 0, 1) := by decide +kernel
theorem dM_extend_13 : decode cM_extend 13 = .ok (.getfield 29, 3) := by decide +kernel
theorem dM_extend_16 : decode cM_extend 16 = .ok (.iload_n 1, 1) := by decide +kernel
theorem dM_extend_17 : decode cM_extend 17 = .ok (.iload_n 2, 1) := by decide +kernel
theorem dM_extend_18 : decode cM_extend 18 = .ok (.iadd, 1) := by decide +kernel
theorem dM_extend_19 : decode cM_extend 19 = .ok (.laload, 1) := by decide +kernel
theorem dM_extend_20 : decode cM_extend 20 = .ok (.lastore, 1) := by decide +kernel
theorem dM_extend_21 : decode cM_extend 21 = .ok (.iinc 2 1, 3) := by decide +kernel
theorem dM_extend_24 : decode cM_extend 24 = .ok (.goto (-22), 3) := by decide +kernel
theorem dM_extend_27 : decode cM_extend 27 = .ok (.iconst 0, 1) := by decide +kernel
theorem dM_extend_28 : decode cM_extend 28 = .ok (.istore_n 2, 1) := by decide +kernel
theorem dM_extend_29 : decode cM_extend 29 = .ok (.iload_n 2, 1) := by decide +kernel
theorem dM_extend_30 : decode cM_extend 30 = .ok (.aload_n 0, 1) := by decide +kernel
theorem dM_extend_31 : decode cM_extend 31 = .ok (.getfield 149, 3) := by decide +kernel
theorem dM_extend_34 : decode cM_extend 34 = .ok (.if_icmp .ge 88, 3) := by decide +kernel
theorem dM_extend_37 : decode cM_extend 37 = .ok (.aload_n 0, 1) := by decide +kernel
theorem dM_extend_38 : decode cM_extend 38 = .ok (.iconst 4, 1) := by decide +kernel
theorem dM_extend_39 : decode cM_extend 39 = .ok (.iload_n 2, 1) := by decide +kernel
theorem dM_extend_40 : decode cM_extend 40 = .ok (.imul, 1) := by decide +kernel
theorem dM_extend_41 : decode cM_extend 41 = .ok (.invokevirtual 197, 3) := by decide +kernel
theorem dM_extend_44 : decode cM_extend 44 = .ok (.istore_n 3, 1) := by decide +kernel
theorem dM_extend_45 : decode cM_extend 45 = .ok (.aload_n 0, 1) := by decide +kernel
theorem dM_extend_46 : decode cM_extend 46 = .ok (.getfield 44, 3) := by decide +kernel
theorem dM_extend_49 : decode cM_extend 49 = .ok (.iconst 4, 1) := by decide +kernel
theorem dM_extend_50 : decode cM_extend 50 = .ok (.iload_n 2, 1) := by decide +kernel
theorem dM_extend_51 : decode cM_extend 51 = .ok (.imul, 1) := by decide +kernel
theorem dM_extend_52 : decode cM_extend 52 = .ok (.iload_n 3, 1) := by decide +kernel
theorem dM_extend_53 : decode cM_extend 53 = .ok (.iadd, 1) := by decide +kernel
theorem dM_extend_54 : decode cM_extend 54 = .ok (.laload, 1) := by decide +kernel
theorem dM_extend_55 : decode cM_extend 55 = .ok (.lstore 4, 2) := by decide +kernel
theorem dM_extend_57 : decode cM_extend 57 = .ok (.aload_n 0, 1) := by decide +kernel
theorem dM_extend_58 : decode cM_extend 58 = .ok (.getfield 20, 3) := by decide +kernel
theorem dM_extend_61 : decode cM_extend 61 = .ok (.iload_n 3, 1) := by decide +kernel
theorem dM_extend_62 : decode cM_extend 62 = .ok (.laload, 1) := by decide +kernel
theorem dM_extend_63 : decode cM_extend 63 = .ok (.lstore 6, 2) := by decide +kernel
theorem dM_extend_65 : decode cM_extend 65 = .ok (.iconst 0, 1) := by decide +kernel
theorem dM_extend_66 : decode cM_extend 66 = .ok (.istore 8, 2) := by decide +kernel
theorem dM_extend_68 : decode cM_extend 68 = .ok (.iload 8, 2) := by decide +kernel
theorem dM_extend_70 : decode cM_extend 70 = .ok (.iconst 4, 1) := by decide +kernel
theorem dM_extend_71 : decode cM_extend 71 = .ok (.if_icmp .ge 41, 3) := by decide +kernel
theorem dM_extend_74 : decode cM_extend 74 = .ok (.aload_n 0, 1) := by decide +kernel
theorem dM_extend_75 : decode cM_extend 75 = .ok (.getfield 20, 3) := by decide +kernel
theorem dM_extend_78 : decode cM_extend 78 = .ok (.iload 8, 2) := by decide +kernel
theorem dM_extend_80 : decode cM_extend 80 = .ok (.aload_n 0, 1) := by decide +kernel
theorem dM_extend_81 : decode cM_extend 81 = .ok (.getfield 20, 3) := by decide +kernel
theorem dM_extend_84 : decode cM_extend 84 = .ok (.iload 8, 2) := by decide +kernel
theorem dM_extend_86 : decode cM_extend 86 = .ok (.laload, 1) := by decide +kernel
theorem dM_extend_87 : decode cM_extend 87 = .ok (.lload 4, 2) := by decide +kernel
theorem dM_extend_89 : decode cM_extend 89 = .ok (.lmul, 1) := by decide +kernel
theorem dM_extend_90 : decode cM_extend 90 = .ok (.lload 6, 2) := by decide +kernel
theorem dM_extend_92 : decode cM_extend 92 = .ok (.aload_n 0, 1) := by decide +kernel
theorem dM_extend_93 : decode cM_extend 93 = .ok (.getfield 44, 3) := by decide +kernel
theorem dM_extend_96 : decode cM_extend 96 = .ok (.iconst 4, 1) := by decide +kernel
theorem dM_extend_97 : decode cM_extend 97 = .ok (.iload_n 2, 1) := by decide +kernel
theorem dM_extend_98 : decode cM_extend 98 = .ok (.imul, 1) := by decide +kernel
theorem dM_extend_99 : decode cM_extend 99 = .ok (.iload 8, 2) := by decide +kernel
theorem dM_extend_101 : decode cM_extend 101 = .ok (.iadd, 1) := by decide +kernel
theorem dM_extend_102 : decode cM_extend 102 = .ok (.laload, 1) := by decide +kernel
theorem dM_extend_103 : decode cM_extend 103 = .ok (.lmul, 1) := by decide +kernel
theorem dM_extend_104 : decode cM_extend 104 = .ok (.lsub, 1) := by decide +kernel
theorem dM_extend_105 : decode cM_extend 105 = .ok (.lastore, 1) := by decide +kernel
theorem dM_extend_106 : decode cM_extend 106 = .ok (.iinc 8 1, 3) := by decide +kernel
theorem dM_extend_109 : decode cM_extend 109 = .ok (.goto (-41), 3) := by decide +kernel
theorem dM_extend_112 : decode cM_extend 112 = .ok (.aload_n 0, 1) := by decide +kernel
theorem dM_extend_113 : decode cM_extend 113 = .ok (.invokevirtual 200, 3) := by decide +kernel
theorem dM_extend_116 : decode cM_extend 116 = .ok (.iinc 2 1, 3) := by decide +kernel
theorem dM_extend_119 : decode cM_extend 119 = .ok (.goto (-90), 3) := by decide +kernel
theorem dM_extend_122 : decode cM_extend 122 = .ok (.aload_n 0, 1) := by decide +kernel
theorem dM_extend_123 : decode cM_extend 123 = .ok (.getfield 20, 3) := by decide +kernel
theorem dM_extend_126 : decode cM_extend 126 = .ok (.iconst 0, 1) := by decide +kernel
theorem dM_extend_127 : decode cM_extend 127 = .ok (.laload, 1) := by decide +kernel
theorem dM_extend_128 : decode cM_extend 128 = .ok (.lconst 0, 1) := by decide +kernel
theorem dM_extend_129 : decode cM_extend 129 = .ok (.lcmp, 1) := by decide +kernel
theorem dM_extend_130 : decode cM_extend 130 = .ok (.ifCond .ne 36, 3) := by decide +kernel
theorem dM_extend_133 : decode cM_extend 133 = .ok (.aload_n 0, 1) := by decide +kernel
theorem dM_extend_134 : decode cM_extend 134 = .ok (.getfield 20, 3) := by decide +kernel
theorem dM_extend_137 : decode cM_extend 137 = .ok (.iconst 1, 1) := by decide +kernel
theorem dM_extend_138 : decode cM_extend 138 = .ok (.laload, 1) := by decide +kernel
theorem dM_extend_139 : decode cM_extend 139 = .ok (.lconst 0, 1) := by decide +kernel
theorem dM_extend_140 : decode cM_extend 140 = .ok (.lcmp, 1) := by decide +kernel
theorem dM_extend_141 : decode cM_extend 141 = .ok (.ifCond .ne 25, 3) := by decide +kernel
theorem dM_extend_144 : decode cM_extend 144 = .ok (.aload_n 0, 1) := by decide +kernel
theorem dM_extend_145 : decode cM_extend 145 = .ok (.getfield 20, 3) := by decide +kernel
theorem dM_extend_148 : decode cM_extend 148 = .ok (.iconst 2, 1) := by decide +kernel
theorem dM_extend_149 : decode cM_extend 149 = .ok (.laload, 1) := by decide +kernel
theorem dM_extend_150 : decode cM_extend 150 = .ok (.lconst 0, 1) := by decide +kernel
theorem dM_extend_151 : decode cM_extend 151 = .ok (.lcmp, 1) := by decide +kernel
theorem dM_extend_152 : decode cM_extend 152 = .ok (.ifCond .ne 14, 3) := by decide +kernel
theorem dM_extend_155 : decode cM_extend 155 = .ok (.aload_n 0, 1) := by decide +kernel
theorem dM_extend_156 : decode cM_extend 156 = .ok (.getfield 20, 3) := by decide +kernel
theorem dM_extend_159 : decode cM_extend 159 = .ok (.iconst 3, 1) := by decide +kernel
theorem dM_extend_160 : decode cM_extend 160 = .ok (.laload, 1) := by decide +kernel
theorem dM_extend_161 : decode cM_extend 161 = .ok (.lconst 0, 1) := by decide +kernel
theorem dM_extend_162 : decode cM_extend 162 = .ok (.lcmp, 1) := by decide +kernel
theorem dM_extend_163 : decode cM_extend 163 = .ok (.ifCond .eq 7, 3) := by decide +kernel
theorem dM_extend_166 : decode cM_extend 166 = .ok (.iconst 1, 1) := by decide +kernel
theorem dM_extend_167 : decode cM_extend 167 = .ok (.goto 4, 3) := by decide +kernel
theorem dM_extend_170 : decode cM_extend 170 = .ok (.iconst 0, 1) := by decide +kernel
theorem dM_extend_171 : decode cM_extend 171 = .ok (.istore_n 2, 1) := by decide +kernel
theorem dM_extend_172 : decode cM_extend 172 = .ok (.iload_n 2, 1) := by decide +kernel
theorem dM_extend_173 : decode cM_extend 173 = .ok (.ifCond .eq 45, 3) := by decide +kernel
theorem dM_extend_176 : decode cM_extend 176 = .ok (.iconst 0, 1) := by decide +kernel
theorem dM_extend_177 : decode cM_extend 177 = .ok (.istore_n 3, 1) := by decide +kernel
theorem dM_extend_178 : decode cM_extend 178 = .ok (.iload_n 3, 1) := by decide +kernel
theorem dM_extend_179 : decode cM_extend 179 = .ok (.iconst 4, 1) := by decide +kernel
theorem dM_extend_180 : decode cM_extend 180 = .ok (.if_icmp .ge 28, 3) := by decide +kernel
theorem dM_extend_183 : decode cM_extend 183 = .ok (.aload_n 0, 1) := by decide +kernel
theorem dM_extend_184 : decode cM_extend 184 = .ok (.getfield 44, 3) := by decide +kernel
theorem dM_extend_187 : decode cM_extend 187 = .ok (.iconst 4, 1) := by decide +kernel
theorem dM_extend_188 : decode cM_extend 188 = .ok (.aload_n 0, 1) := by decide +kernel
theorem dM_extend_189 : decode cM_extend 189 = .ok (.getfield 149, 3) := by decide +kernel
theorem dM_extend_192 : decode cM_extend 192 = .ok (.imul, 1) := by decide +kernel
theorem dM_extend_193 : decode cM_extend 193 = .ok (.iload_n 3, 1) := by decide +kernel
theorem dM_extend_194 : decode cM_extend 194 = .ok (.iadd, 1) := by decide +kernel
theorem dM_extend_195 : decode cM_extend 195 = .ok (.aload_n 0, 1) := by decide +kernel
theorem dM_extend_196 : decode cM_extend 196 = .ok (.getfield 20, 3) := by decide +kernel
theorem dM_extend_199 : decode cM_extend 199 = .ok (.iload_n 3, 1) := by decide +kernel
theorem dM_extend_200 : decode cM_extend 200 = .ok (.laload, 1) := by decide +kernel
theorem dM_extend_201 : decode cM_extend 201 = .ok (.lastore, 1) := by decide +kernel
theorem dM_extend_202 : decode cM_extend 202 = .ok (.iinc 3 1, 3) := by decide +kernel
theorem dM_extend_205 : decode cM_extend 205 = .ok (.goto (-27), 3) := by decide +kernel
theorem dM_extend_208 : decode cM_extend 208 = .ok (.aload_n 0, 1) := by decide +kernel
theorem dM_extend_209 : decode cM_extend 209 = .ok (.dup, 1) := by decide +kernel
theorem dM_extend_210 : decode cM_extend 210 = .ok (.getfield 149, 3) := by decide +kernel
theorem dM_extend_213 : decode cM_extend 213 = .ok (.iconst 1, 1) := by decide +kernel
theorem dM_extend_214 : decode cM_extend 214 = .ok (.iadd, 1) := by decide +kernel
theorem dM_extend_215 : decode cM_extend 215 = .ok (.putfield 149, 3) := by decide +kernel
theorem dM_extend_218 : decode cM_extend 218 = .ok (.return_, 1) := by decide +kernel
theorem cb_M_lead_M_extend : CB yM_lead cM_lead 3 (some .int) rm_M_lead rm_M_extend 1 := ⟨wd697, wd8, by decide +kernel, rfl, rfl, by decide⟩
theorem cb_M_shrink_M_extend : CB yM_shrink cM_shrink 4 none rm_M_shrink rm_M_extend 0 := ⟨wd701, wd8, by decide +kernel, rfl, rfl, by decide⟩
noncomputable def lM_extend_2 (F : Nat) (v1 : Int32) : Nat → Int32 → MS → Option (MS)
  | 0, _, _ => none
  | n + 1, v2, τ => if (4 : Int32) ≤ v2 then some (τ) else gd (vp_in (v1 + v2) 20) (gd (vp_in v2 4) (lM_extend_2 F v1 n (v2 + 1) (s_fresh τ (vp_updL (m_fresh τ) v2.toNatClampNeg ((m_made τ) (v1 + v2).toNatClampNeg)))))
set_option maxHeartbeats 4000000 in
set_option maxRecDepth 100000 in
theorem lM_extend_2_ok {g : Gm} {κ : ctx} (G : OK g κ RM cM_extend 9 none rm_M_extend) (X : Nat → va_E) (F : Nat) (v1 : Int32) : ∀ (n : Nat) (v2 : Int32) (τ : MS) (out : MS), lM_extend_2 F v1 n v2 τ = some out → (J g κ 9 27 [(0, .ref (κ.1 0))] [] (LM κ out X)) → J g κ 9 2 [(0, .ref (κ.1 0)), (1, .int v1), (2, .int v2)] [] (LM κ τ X) := by
  intro n
  induction n with
  | zero =>
    intro v2 τ
    intro out h
    rw [lM_extend_2] at h
    cases h
  | succ n ih =>
    intro v2 τ out h K
    rw [lM_extend_2] at h
    refine w_iload_n (pc := 2) (q := 2) G dM_extend_2 rfl rfl ?_
    refine w_iconst (pc := 3) (v := (4 : Int32)) G dM_extend_3 (by decide) ?_
    refine w_icmp_ge (pc := 4) (tgt := 27) G dM_extend_4 (by decide) (fun c4 => ?_) (fun c4 => ?_)
    · have h := if_t c4 h
      obtain rfl := Option.some.inj h
      refine w_sub (lv' := [(0, .ref (κ.1 0))]) [0] rfl ?_
      exact K
    · have h := if_f c4 h
      refine w_aload_n (pc := 7) (q := 0) G dM_extend_7 rfl rfl ?_
      refine w_get (pc := 8) (v := .ref (κ.1 4)) (fs := mfl κ τ) G 0 (by decide) rfl rfl wsM_ok 7 (by decide) wd497 rfl dM_extend_8 ?_
      refine w_iload_n (pc := 11) (q := 2) G dM_extend_11 rfl rfl ?_
      refine w_aload_n (pc := 12) (q := 0) G dM_extend_12 rfl rfl ?_
      refine w_get (pc := 13) (v := .ref (κ.1 7)) (fs := mfl κ τ) G 0 (by decide) rfl rfl wsM_ok 10 (by decide) wd500 rfl dM_extend_13 ?_
      refine w_iload_n (pc := 16) (q := 1) G dM_extend_16 rfl rfl ?_
      refine w_iload_n (pc := 17) (q := 2) G dM_extend_17 rfl rfl ?_
      refine w_iadd (pc := 18) G dM_extend_18 ?_
      obtain ⟨i19, h⟩ := gd_some h
      refine w_lald (pc := 19) (n := 20) (f := (m_made τ)) G 7 (by decide) rfl i19 dM_extend_19 ?_
      obtain ⟨i20, h⟩ := gd_some h
      refine w_last (pc := 20) (n := 4) (f := (m_fresh τ)) (L1 := (LM κ (s_fresh τ (vp_updL (m_fresh τ) v2.toNatClampNeg ((m_made τ) (v1 + v2).toNatClampNeg))) X)) G 4 (by decide) rfl i20 dM_extend_20 (LM_fresh κ τ X _) ?_
      refine w_iinc (pc := 21) (q0 := 2) (v := (v2 + 1)) (lv' := [(2, .int (v2 + 1)), (0, .ref (κ.1 0)), (1, .int v1)]) G dM_extend_21 rfl rfl (by decide) rfl ?_
      refine w_goto (pc := 24) (tgt := 2) G dM_extend_24 (by decide) ?_
      refine w_sub (lv' := [(0, .ref (κ.1 0)), (1, .int v1), (2, .int (v2 + 1))]) [1, 2, 0] rfl ?_
      exact ih (v2 + 1) (s_fresh τ (vp_updL (m_fresh τ) v2.toNatClampNeg ((m_made τ) (v1 + v2).toNatClampNeg))) out h K
noncomputable def lM_extend_68 (F : Nat) (v2 : Int32) (v4 : Int64) (v6 : Int64) : Nat → Int32 → MS → Option (MS)
  | 0, _, _ => none
  | n + 1, v8, τ => if (4 : Int32) ≤ v8 then some (τ) else gd (vp_in v8 4) (gd (vp_in (((4 : Int32) * v2) + v8) 16) (gd (vp_in v8 4) (lM_extend_68 F v2 v4 v6 n (v8 + 1) (s_fresh τ (vp_updL (m_fresh τ) v8.toNatClampNeg ((((m_fresh τ) v8.toNatClampNeg) * v4) - (v6 * ((m_span τ) (((4 : Int32) * v2) + v8).toNatClampNeg))))))))
set_option maxHeartbeats 4000000 in
set_option maxRecDepth 100000 in
theorem lM_extend_68_ok {g : Gm} {κ : ctx} (G : OK g κ RM cM_extend 9 none rm_M_extend) (X : Nat → va_E) (F : Nat) (v2 : Int32) (v4 : Int64) (v6 : Int64) : ∀ (n : Nat) (v8 : Int32) (τ : MS) (out : MS), lM_extend_68 F v2 v4 v6 n v8 τ = some out → (J g κ 9 112 [(0, .ref (κ.1 0)), (2, .int v2)] [] (LM κ out X)) → J g κ 9 68 [(0, .ref (κ.1 0)), (2, .int v2), (4, .long v4), (6, .long v6), (8, .int v8)] [] (LM κ τ X) := by
  intro n
  induction n with
  | zero =>
    intro v8 τ
    intro out h
    rw [lM_extend_68] at h
    cases h
  | succ n ih =>
    intro v8 τ out h K
    rw [lM_extend_68] at h
    refine w_iload (pc := 68) (q := 4) G dM_extend_68 rfl ?_
    refine w_iconst (pc := 70) (v := (4 : Int32)) G dM_extend_70 (by decide) ?_
    refine w_icmp_ge (pc := 71) (tgt := 112) G dM_extend_71 (by decide) (fun c71 => ?_) (fun c71 => ?_)
    · have h := if_t c71 h
      obtain rfl := Option.some.inj h
      refine w_sub (lv' := [(0, .ref (κ.1 0)), (2, .int v2)]) [0, 1] rfl ?_
      exact K
    · have h := if_f c71 h
      refine w_aload_n (pc := 74) (q := 0) G dM_extend_74 rfl rfl ?_
      refine w_get (pc := 75) (v := .ref (κ.1 4)) (fs := mfl κ τ) G 0 (by decide) rfl rfl wsM_ok 7 (by decide) wd497 rfl dM_extend_75 ?_
      refine w_iload (pc := 78) (q := 4) G dM_extend_78 rfl ?_
      refine w_aload_n (pc := 80) (q := 0) G dM_extend_80 rfl rfl ?_
      refine w_get (pc := 81) (v := .ref (κ.1 4)) (fs := mfl κ τ) G 0 (by decide) rfl rfl wsM_ok 7 (by decide) wd497 rfl dM_extend_81 ?_
      refine w_iload (pc := 84) (q := 4) G dM_extend_84 rfl ?_
      obtain ⟨i86, h⟩ := gd_some h
      refine w_lald (pc := 86) (n := 4) (f := (m_fresh τ)) G 4 (by decide) rfl i86 dM_extend_86 ?_
      refine w_lload (pc := 87) (q := 2) G dM_extend_87 rfl ?_
      refine w_lmul (pc := 89) G dM_extend_89 ?_
      refine w_lload (pc := 90) (q := 3) G dM_extend_90 rfl ?_
      refine w_aload_n (pc := 92) (q := 0) G dM_extend_92 rfl rfl ?_
      refine w_get (pc := 93) (v := .ref (κ.1 12)) (fs := mfl κ τ) G 0 (by decide) rfl rfl wsM_ok 22 (by decide) wd512 rfl dM_extend_93 ?_
      refine w_iconst (pc := 96) (v := (4 : Int32)) G dM_extend_96 (by decide) ?_
      refine w_iload_n (pc := 97) (q := 1) G dM_extend_97 rfl rfl ?_
      refine w_imul (pc := 98) G dM_extend_98 ?_
      refine w_iload (pc := 99) (q := 4) G dM_extend_99 rfl ?_
      refine w_iadd (pc := 101) G dM_extend_101 ?_
      obtain ⟨i102, h⟩ := gd_some h
      refine w_lald (pc := 102) (n := 16) (f := (m_span τ)) G 12 (by decide) rfl i102 dM_extend_102 ?_
      refine w_lmul (pc := 103) G dM_extend_103 ?_
      refine w_lsub (pc := 104) G dM_extend_104 ?_
      obtain ⟨i105, h⟩ := gd_some h
      refine w_last (pc := 105) (n := 4) (f := (m_fresh τ)) (L1 := (LM κ (s_fresh τ (vp_updL (m_fresh τ) v8.toNatClampNeg ((((m_fresh τ) v8.toNatClampNeg) * v4) - (v6 * ((m_span τ) (((4 : Int32) * v2) + v8).toNatClampNeg))))) X)) G 4 (by decide) rfl i105 dM_extend_105 (LM_fresh κ τ X _) ?_
      refine w_iinc (pc := 106) (q0 := 4) (v := (v8 + 1)) (lv' := [(8, .int (v8 + 1)), (0, .ref (κ.1 0)), (2, .int v2), (4, .long v4), (6, .long v6)]) G dM_extend_106 rfl rfl (by decide) rfl ?_
      refine w_goto (pc := 109) (tgt := 68) G dM_extend_109 (by decide) ?_
      refine w_sub (lv' := [(0, .ref (κ.1 0)), (2, .int v2), (4, .long v4), (6, .long v6), (8, .int (v8 + 1))]) [1, 2, 3, 4, 0] rfl ?_
      exact ih (v8 + 1) (s_fresh τ (vp_updL (m_fresh τ) v8.toNatClampNeg ((((m_fresh τ) v8.toNatClampNeg) * v4) - (v6 * ((m_span τ) (((4 : Int32) * v2) + v8).toNatClampNeg))))) out h K
noncomputable def lM_extend_29 (F : Nat)  : Nat → Int32 → MS → Option (MS)
  | 0, _, _ => none
  | n + 1, v2, τ => if (m_spanned τ) ≤ v2 then some (τ) else (M_lead F τ ((4 : Int32) * v2)).bind (fun r41 => gd (vp_in (((4 : Int32) * v2) + r41) 16) (gd (vp_in r41 4) ((lM_extend_68 F v2 ((m_span τ) (((4 : Int32) * v2) + r41).toNatClampNeg) ((m_fresh τ) r41.toNatClampNeg) F (0 : Int32) τ).bind (fun o68_10 => (M_shrink F o68_10 ).bind (fun r113 => lM_extend_29 F  n (v2 + 1) r113)))))
set_option maxHeartbeats 4000000 in
set_option maxRecDepth 100000 in
theorem lM_extend_29_ok {g : Gm} {κ : ctx} (G : OK g κ RM cM_extend 9 none rm_M_extend) (X : Nat → va_E) (F : Nat)  : ∀ (n : Nat) (v2 : Int32) (τ : MS) (out : MS), lM_extend_29 F  n v2 τ = some out → (J g κ 9 122 [(0, .ref (κ.1 0))] [] (LM κ out X)) → J g κ 9 29 [(0, .ref (κ.1 0)), (2, .int v2)] [] (LM κ τ X) := by
  intro n
  induction n with
  | zero =>
    intro v2 τ
    intro out h
    rw [lM_extend_29] at h
    cases h
  | succ n ih =>
    intro v2 τ out h K
    rw [lM_extend_29] at h
    refine w_iload_n (pc := 29) (q := 1) G dM_extend_29 rfl rfl ?_
    refine w_aload_n (pc := 30) (q := 0) G dM_extend_30 rfl rfl ?_
    refine w_get (pc := 31) (v := .int (m_spanned τ)) (fs := mfl κ τ) G 0 (by decide) rfl rfl wsM_ok 21 (by decide) wd511 rfl dM_extend_31 ?_
    refine w_icmp_ge (pc := 34) (tgt := 122) G dM_extend_34 (by decide) (fun c34 => ?_) (fun c34 => ?_)
    · have h := if_t c34 h
      obtain rfl := Option.some.inj h
      refine w_sub (lv' := [(0, .ref (κ.1 0))]) [0] rfl ?_
      exact K
    · have h := if_f c34 h
      refine w_aload_n (pc := 37) (q := 0) G dM_extend_37 rfl rfl ?_
      refine w_iconst (pc := 38) (v := (4 : Int32)) G dM_extend_38 (by decide) ?_
      refine w_iload_n (pc := 39) (q := 1) G dM_extend_39 rfl rfl ?_
      refine w_imul (pc := 40) G dM_extend_40 ?_
      obtain ⟨r41, e41, h⟩ := bd h
      refine w_callV (pc := 41) (av := [.int ((4 : Int32) * v2)]) (rest := []) (v := some (.int r41)) (L' := (LM κ τ X)) (T := TM) (fs := mfl κ τ) G 0 0 27 (by decide) rfl rfl cb_M_lead_M_extend wd696 ws38 wd694 (met_M_lead κ X F τ ((4 : Int32) * v2) e41) rfl rfl rfl (Nat.le_of_ble_eq_true rfl) dM_extend_41 ?_
      refine w_istore_n (pc := 44) (lv' := [(3, .int r41), (0, .ref (κ.1 0)), (2, .int v2)]) G dM_extend_44 rfl (by decide) rfl ?_
      refine w_aload_n (pc := 45) (q := 1) G dM_extend_45 rfl rfl ?_
      refine w_get (pc := 46) (v := .ref (κ.1 12)) (fs := mfl κ τ) G 0 (by decide) rfl rfl wsM_ok 22 (by decide) wd512 rfl dM_extend_46 ?_
      refine w_iconst (pc := 49) (v := (4 : Int32)) G dM_extend_49 (by decide) ?_
      refine w_iload_n (pc := 50) (q := 2) G dM_extend_50 rfl rfl ?_
      refine w_imul (pc := 51) G dM_extend_51 ?_
      refine w_iload_n (pc := 52) (q := 0) G dM_extend_52 rfl rfl ?_
      refine w_iadd (pc := 53) G dM_extend_53 ?_
      obtain ⟨i54, h⟩ := gd_some h
      refine w_lald (pc := 54) (n := 16) (f := (m_span τ)) G 12 (by decide) rfl i54 dM_extend_54 ?_
      refine w_lstore (pc := 55) (lv' := [(4, .long ((m_span τ) (((4 : Int32) * v2) + r41).toNatClampNeg)), (3, .int r41), (0, .ref (κ.1 0)), (2, .int v2)]) G dM_extend_55 (by decide) rfl ?_
      refine w_aload_n (pc := 57) (q := 2) G dM_extend_57 rfl rfl ?_
      refine w_get (pc := 58) (v := .ref (κ.1 4)) (fs := mfl κ τ) G 0 (by decide) rfl rfl wsM_ok 7 (by decide) wd497 rfl dM_extend_58 ?_
      refine w_iload_n (pc := 61) (q := 1) G dM_extend_61 rfl rfl ?_
      obtain ⟨i62, h⟩ := gd_some h
      refine w_lald (pc := 62) (n := 4) (f := (m_fresh τ)) G 4 (by decide) rfl i62 dM_extend_62 ?_
      refine w_lstore (pc := 63) (lv' := [(6, .long ((m_fresh τ) r41.toNatClampNeg)), (4, .long ((m_span τ) (((4 : Int32) * v2) + r41).toNatClampNeg)), (3, .int r41), (0, .ref (κ.1 0)), (2, .int v2)]) G dM_extend_63 (by decide) rfl ?_
      refine w_iconst (pc := 65) (v := (0 : Int32)) G dM_extend_65 (by decide) ?_
      refine w_istore (pc := 66) (lv' := [(8, .int (0 : Int32)), (6, .long ((m_fresh τ) r41.toNatClampNeg)), (4, .long ((m_span τ) (((4 : Int32) * v2) + r41).toNatClampNeg)), (3, .int r41), (0, .ref (κ.1 0)), (2, .int v2)]) G dM_extend_66 (by decide) rfl ?_
      refine w_sub (lv' := [(0, .ref (κ.1 0)), (2, .int v2), (4, .long ((m_span τ) (((4 : Int32) * v2) + r41).toNatClampNeg)), (6, .long ((m_fresh τ) r41.toNatClampNeg)), (8, .int (0 : Int32))]) [4, 5, 2, 1, 0] rfl ?_
      obtain ⟨o68_10, eo68_10, h⟩ := bd h
      refine lM_extend_68_ok G X F v2 ((m_span τ) (((4 : Int32) * v2) + r41).toNatClampNeg) ((m_fresh τ) r41.toNatClampNeg) F (0 : Int32) τ o68_10 eo68_10 ?_
      refine w_aload_n (pc := 112) (q := 0) G dM_extend_112 rfl rfl ?_
      obtain ⟨r113, e113, h⟩ := bd h
      refine w_callV (pc := 113) (av := []) (rest := []) (v := none) (L' := (LM κ r113 X)) (T := TM) (fs := mfl κ o68_10) G 0 0 27 (by decide) rfl rfl cb_M_shrink_M_extend wd700 ws39 wd698 (met_M_shrink κ X F o68_10  e113) rfl rfl rfl (Nat.le_of_ble_eq_true rfl) dM_extend_113 ?_
      refine w_iinc (pc := 116) (q0 := 1) (v := (v2 + 1)) (lv' := [(2, .int (v2 + 1)), (0, .ref (κ.1 0))]) G dM_extend_116 rfl rfl (by decide) rfl ?_
      refine w_goto (pc := 119) (tgt := 29) G dM_extend_119 (by decide) ?_
      refine w_sub (lv' := [(0, .ref (κ.1 0)), (2, .int (v2 + 1))]) [1, 0] rfl ?_
      exact ih (v2 + 1) r113 out h K
noncomputable def lM_extend_178 (F : Nat)  : Nat → Int32 → MS → Option (MS)
  | 0, _, _ => none
  | n + 1, v3, τ => if (4 : Int32) ≤ v3 then some (τ) else gd (vp_in v3 4) (gd (vp_in (((4 : Int32) * (m_spanned τ)) + v3) 16) (lM_extend_178 F  n (v3 + 1) (s_span τ (vp_updL (m_span τ) (((4 : Int32) * (m_spanned τ)) + v3).toNatClampNeg ((m_fresh τ) v3.toNatClampNeg)))))
set_option maxHeartbeats 4000000 in
set_option maxRecDepth 100000 in
theorem lM_extend_178_ok {g : Gm} {κ : ctx} (G : OK g κ RM cM_extend 9 none rm_M_extend) (X : Nat → va_E) (F : Nat)  : ∀ (n : Nat) (v3 : Int32) (τ : MS) (out : MS), lM_extend_178 F  n v3 τ = some out → (J g κ 9 208 [(0, .ref (κ.1 0))] [] (LM κ out X)) → J g κ 9 178 [(0, .ref (κ.1 0)), (3, .int v3)] [] (LM κ τ X) := by
  intro n
  induction n with
  | zero =>
    intro v3 τ
    intro out h
    rw [lM_extend_178] at h
    cases h
  | succ n ih =>
    intro v3 τ out h K
    rw [lM_extend_178] at h
    refine w_iload_n (pc := 178) (q := 1) G dM_extend_178 rfl rfl ?_
    refine w_iconst (pc := 179) (v := (4 : Int32)) G dM_extend_179 (by decide) ?_
    refine w_icmp_ge (pc := 180) (tgt := 208) G dM_extend_180 (by decide) (fun c180 => ?_) (fun c180 => ?_)
    · have h := if_t c180 h
      obtain rfl := Option.some.inj h
      refine w_sub (lv' := [(0, .ref (κ.1 0))]) [0] rfl ?_
      exact K
    · have h := if_f c180 h
      refine w_aload_n (pc := 183) (q := 0) G dM_extend_183 rfl rfl ?_
      refine w_get (pc := 184) (v := .ref (κ.1 12)) (fs := mfl κ τ) G 0 (by decide) rfl rfl wsM_ok 22 (by decide) wd512 rfl dM_extend_184 ?_
      refine w_iconst (pc := 187) (v := (4 : Int32)) G dM_extend_187 (by decide) ?_
      refine w_aload_n (pc := 188) (q := 0) G dM_extend_188 rfl rfl ?_
      refine w_get (pc := 189) (v := .int (m_spanned τ)) (fs := mfl κ τ) G 0 (by decide) rfl rfl wsM_ok 21 (by decide) wd511 rfl dM_extend_189 ?_
      refine w_imul (pc := 192) G dM_extend_192 ?_
      refine w_iload_n (pc := 193) (q := 1) G dM_extend_193 rfl rfl ?_
      refine w_iadd (pc := 194) G dM_extend_194 ?_
      refine w_aload_n (pc := 195) (q := 0) G dM_extend_195 rfl rfl ?_
      refine w_get (pc := 196) (v := .ref (κ.1 4)) (fs := mfl κ τ) G 0 (by decide) rfl rfl wsM_ok 7 (by decide) wd497 rfl dM_extend_196 ?_
      refine w_iload_n (pc := 199) (q := 1) G dM_extend_199 rfl rfl ?_
      obtain ⟨i200, h⟩ := gd_some h
      refine w_lald (pc := 200) (n := 4) (f := (m_fresh τ)) G 4 (by decide) rfl i200 dM_extend_200 ?_
      obtain ⟨i201, h⟩ := gd_some h
      refine w_last (pc := 201) (n := 16) (f := (m_span τ)) (L1 := (LM κ (s_span τ (vp_updL (m_span τ) (((4 : Int32) * (m_spanned τ)) + v3).toNatClampNeg ((m_fresh τ) v3.toNatClampNeg))) X)) G 12 (by decide) rfl i201 dM_extend_201 (LM_span κ τ X _) ?_
      refine w_iinc (pc := 202) (q0 := 1) (v := (v3 + 1)) (lv' := [(3, .int (v3 + 1)), (0, .ref (κ.1 0))]) G dM_extend_202 rfl rfl (by decide) rfl ?_
      refine w_goto (pc := 205) (tgt := 178) G dM_extend_205 (by decide) ?_
      refine w_sub (lv' := [(0, .ref (κ.1 0)), (3, .int (v3 + 1))]) [1, 0] rfl ?_
      exact ih (v3 + 1) (s_span τ (vp_updL (m_span τ) (((4 : Int32) * (m_spanned τ)) + v3).toNatClampNeg ((m_fresh τ) v3.toNatClampNeg))) out h K
noncomputable def M_extend (F : Nat) (τ : MS) (v1 : Int32) : Option (MS) := (lM_extend_2 F v1 F (0 : Int32) τ).bind (fun o2_4 => (lM_extend_29 F  F (0 : Int32) o2_4).bind (fun o29_10 => gd (vp_in (0 : Int32) 4) (if ((m_fresh o29_10) (0 : Int32).toNatClampNeg) = (0 : Int64) then gd (vp_in (1 : Int32) 4) (if ((m_fresh o29_10) (1 : Int32).toNatClampNeg) = (0 : Int64) then gd (vp_in (2 : Int32) 4) (if ((m_fresh o29_10) (2 : Int32).toNatClampNeg) = (0 : Int64) then gd (vp_in (3 : Int32) 4) (if ((m_fresh o29_10) (3 : Int32).toNatClampNeg) = (0 : Int64) then some o29_10 else (lM_extend_178 F  F (0 : Int32) o29_10).bind (fun o178_20 => some (s_spanned o178_20 (((m_spanned o178_20) + (1 : Int32)))))) else (lM_extend_178 F  F (0 : Int32) o29_10).bind (fun o178_22 => some (s_spanned o178_22 (((m_spanned o178_22) + (1 : Int32)))))) else (lM_extend_178 F  F (0 : Int32) o29_10).bind (fun o178_24 => some (s_spanned o178_24 (((m_spanned o178_24) + (1 : Int32)))))) else (lM_extend_178 F  F (0 : Int32) o29_10).bind (fun o178_26 => some (s_spanned o178_26 (((m_spanned o178_26) + (1 : Int32))))))))
set_option maxHeartbeats 4000000 in
set_option maxRecDepth 100000 in
theorem met_M_extend (κ : ctx) (X : Nat → va_E) (F : Nat) (τ : MS) (v1 : Int32) {out : MS} (h : M_extend F τ v1 = some out) : Mt yM_extend cM_extend 9 none rm_M_extend κ [.ref (κ.1 0), .int v1] (LM κ τ X) none (LM κ out X) := by
  refine Mt.of (by decide) (Nat.le_of_ble_eq_true rfl) ?_
  intro g G Fh
  unfold M_extend at h
  show J g κ 9 0 [(0, .ref (κ.1 0)), (1, .int v1)] [] (LM κ τ X)
  refine w_iconst (pc := 0) (v := (0 : Int32)) G dM_extend_0 (by decide) ?_
  refine w_istore_n (pc := 1) (lv' := [(2, .int (0 : Int32)), (0, .ref (κ.1 0)), (1, .int v1)]) G dM_extend_1 rfl (by decide) rfl ?_
  refine w_sub (lv' := [(0, .ref (κ.1 0)), (1, .int v1), (2, .int (0 : Int32))]) [1, 2, 0] rfl ?_
  obtain ⟨o2_4, eo2_4, h⟩ := bd h
  refine lM_extend_2_ok G X F v1 F (0 : Int32) τ o2_4 eo2_4 ?_
  refine w_iconst (pc := 27) (v := (0 : Int32)) G dM_extend_27 (by decide) ?_
  refine w_istore_n (pc := 28) (lv' := [(2, .int (0 : Int32)), (0, .ref (κ.1 0))]) G dM_extend_28 rfl (by decide) rfl ?_
  refine w_sub (lv' := [(0, .ref (κ.1 0)), (2, .int (0 : Int32))]) [1, 0] rfl ?_
  obtain ⟨o29_10, eo29_10, h⟩ := bd h
  refine lM_extend_29_ok G X F  F (0 : Int32) o2_4 o29_10 eo29_10 ?_
  refine w_aload_n (pc := 122) (q := 0) G dM_extend_122 rfl rfl ?_
  refine w_get (pc := 123) (v := .ref (κ.1 4)) (fs := mfl κ o29_10) G 0 (by decide) rfl rfl wsM_ok 7 (by decide) wd497 rfl dM_extend_123 ?_
  refine w_iconst (pc := 126) (v := (0 : Int32)) G dM_extend_126 (by decide) ?_
  obtain ⟨i127, h⟩ := gd_some h
  refine w_lald (pc := 127) (n := 4) (f := (m_fresh o29_10)) G 4 (by decide) rfl i127 dM_extend_127 ?_
  refine w_lconst (pc := 128) (v := (0 : Int64)) G dM_extend_128 (by decide) ?_
  refine w_lc_ne (pc := 129) (tgt := 166) G dM_extend_129 dM_extend_130 (by decide) (fun c129 => ?_) (fun c129 => ?_)
  · have h := if_t c129 h
    refine w_aload_n (pc := 133) (q := 0) G dM_extend_133 rfl rfl ?_
    refine w_get (pc := 134) (v := .ref (κ.1 4)) (fs := mfl κ o29_10) G 0 (by decide) rfl rfl wsM_ok 7 (by decide) wd497 rfl dM_extend_134 ?_
    refine w_iconst (pc := 137) (v := (1 : Int32)) G dM_extend_137 (by decide) ?_
    obtain ⟨i138, h⟩ := gd_some h
    refine w_lald (pc := 138) (n := 4) (f := (m_fresh o29_10)) G 4 (by decide) rfl i138 dM_extend_138 ?_
    refine w_lconst (pc := 139) (v := (0 : Int64)) G dM_extend_139 (by decide) ?_
    refine w_lc_ne (pc := 140) (tgt := 166) G dM_extend_140 dM_extend_141 (by decide) (fun c140 => ?_) (fun c140 => ?_)
    · have h := if_t c140 h
      refine w_aload_n (pc := 144) (q := 0) G dM_extend_144 rfl rfl ?_
      refine w_get (pc := 145) (v := .ref (κ.1 4)) (fs := mfl κ o29_10) G 0 (by decide) rfl rfl wsM_ok 7 (by decide) wd497 rfl dM_extend_145 ?_
      refine w_iconst (pc := 148) (v := (2 : Int32)) G dM_extend_148 (by decide) ?_
      obtain ⟨i149, h⟩ := gd_some h
      refine w_lald (pc := 149) (n := 4) (f := (m_fresh o29_10)) G 4 (by decide) rfl i149 dM_extend_149 ?_
      refine w_lconst (pc := 150) (v := (0 : Int64)) G dM_extend_150 (by decide) ?_
      refine w_lc_ne (pc := 151) (tgt := 166) G dM_extend_151 dM_extend_152 (by decide) (fun c151 => ?_) (fun c151 => ?_)
      · have h := if_t c151 h
        refine w_aload_n (pc := 155) (q := 0) G dM_extend_155 rfl rfl ?_
        refine w_get (pc := 156) (v := .ref (κ.1 4)) (fs := mfl κ o29_10) G 0 (by decide) rfl rfl wsM_ok 7 (by decide) wd497 rfl dM_extend_156 ?_
        refine w_iconst (pc := 159) (v := (3 : Int32)) G dM_extend_159 (by decide) ?_
        obtain ⟨i160, h⟩ := gd_some h
        refine w_lald (pc := 160) (n := 4) (f := (m_fresh o29_10)) G 4 (by decide) rfl i160 dM_extend_160 ?_
        refine w_lconst (pc := 161) (v := (0 : Int64)) G dM_extend_161 (by decide) ?_
        refine w_lc_eq (pc := 162) (tgt := 170) G dM_extend_162 dM_extend_163 (by decide) (fun c162 => ?_) (fun c162 => ?_)
        · have h := if_t c162 h
          refine w_iconst (pc := 170) (v := (0 : Int32)) G dM_extend_170 (by decide) ?_
          refine w_istore_n (pc := 171) (lv' := [(2, .int (0 : Int32)), (0, .ref (κ.1 0))]) G dM_extend_171 rfl (by decide) rfl ?_
          refine w_iload_n (pc := 172) (q := 0) G dM_extend_172 rfl rfl ?_
          refine w_if_eq (pc := 173) (tgt := 218) G dM_extend_173 (by decide) (fun _ => ?_) (fun c => absurd (by decide) c)
          obtain rfl := Option.some.inj h
          exact w_vret (pc := 218) G dM_extend_218 Fh
        · have h := if_f c162 h
          refine w_iconst (pc := 166) (v := (1 : Int32)) G dM_extend_166 (by decide) ?_
          refine w_goto (pc := 167) (tgt := 171) G dM_extend_167 (by decide) ?_
          refine w_istore_n (pc := 171) (lv' := [(2, .int (1 : Int32)), (0, .ref (κ.1 0))]) G dM_extend_171 rfl (by decide) rfl ?_
          refine w_iload_n (pc := 172) (q := 0) G dM_extend_172 rfl rfl ?_
          refine w_if_eq (pc := 173) (tgt := 218) G dM_extend_173 (by decide) (fun c => absurd c (by decide)) (fun _ => ?_)
          refine w_iconst (pc := 176) (v := (0 : Int32)) G dM_extend_176 (by decide) ?_
          refine w_istore_n (pc := 177) (lv' := [(3, .int (0 : Int32)), (2, .int (1 : Int32)), (0, .ref (κ.1 0))]) G dM_extend_177 rfl (by decide) rfl ?_
          refine w_sub (lv' := [(0, .ref (κ.1 0)), (3, .int (0 : Int32))]) [2, 0] rfl ?_
          obtain ⟨o178_20, eo178_20, h⟩ := bd h
          refine lM_extend_178_ok G X F  F (0 : Int32) o29_10 o178_20 eo178_20 ?_
          refine w_aload_n (pc := 208) (q := 0) G dM_extend_208 rfl rfl ?_
          refine w_dup (pc := 209) G dM_extend_209 rfl ?_
          refine w_get (pc := 210) (v := .int (m_spanned o178_20)) (fs := mfl κ o178_20) G 0 (by decide) rfl rfl wsM_ok 21 (by decide) wd511 rfl dM_extend_210 ?_
          refine w_iconst (pc := 213) (v := (1 : Int32)) G dM_extend_213 (by decide) ?_
          refine w_iadd (pc := 214) G dM_extend_214 ?_
          refine w_put (pc := 215) (fs := mfl κ o178_20) (L1 := (LM κ (s_spanned o178_20 (((m_spanned o178_20) + (1 : Int32)))) X)) G 0 (by decide) rfl rfl wsM_ok tyM tyM_ok nmM 21 (by decide) wd511 rfl rfl rfl (Nat.le_of_ble_eq_true rfl) dM_extend_215 (LMf_spanned κ o178_20 X _) ?_
          obtain rfl := Option.some.inj h
          exact w_vret (pc := 218) G dM_extend_218 Fh
      · have h := if_f c151 h
        refine w_iconst (pc := 166) (v := (1 : Int32)) G dM_extend_166 (by decide) ?_
        refine w_goto (pc := 167) (tgt := 171) G dM_extend_167 (by decide) ?_
        refine w_istore_n (pc := 171) (lv' := [(2, .int (1 : Int32)), (0, .ref (κ.1 0))]) G dM_extend_171 rfl (by decide) rfl ?_
        refine w_iload_n (pc := 172) (q := 0) G dM_extend_172 rfl rfl ?_
        refine w_if_eq (pc := 173) (tgt := 218) G dM_extend_173 (by decide) (fun c => absurd c (by decide)) (fun _ => ?_)
        refine w_iconst (pc := 176) (v := (0 : Int32)) G dM_extend_176 (by decide) ?_
        refine w_istore_n (pc := 177) (lv' := [(3, .int (0 : Int32)), (2, .int (1 : Int32)), (0, .ref (κ.1 0))]) G dM_extend_177 rfl (by decide) rfl ?_
        refine w_sub (lv' := [(0, .ref (κ.1 0)), (3, .int (0 : Int32))]) [2, 0] rfl ?_
        obtain ⟨o178_22, eo178_22, h⟩ := bd h
        refine lM_extend_178_ok G X F  F (0 : Int32) o29_10 o178_22 eo178_22 ?_
        refine w_aload_n (pc := 208) (q := 0) G dM_extend_208 rfl rfl ?_
        refine w_dup (pc := 209) G dM_extend_209 rfl ?_
        refine w_get (pc := 210) (v := .int (m_spanned o178_22)) (fs := mfl κ o178_22) G 0 (by decide) rfl rfl wsM_ok 21 (by decide) wd511 rfl dM_extend_210 ?_
        refine w_iconst (pc := 213) (v := (1 : Int32)) G dM_extend_213 (by decide) ?_
        refine w_iadd (pc := 214) G dM_extend_214 ?_
        refine w_put (pc := 215) (fs := mfl κ o178_22) (L1 := (LM κ (s_spanned o178_22 (((m_spanned o178_22) + (1 : Int32)))) X)) G 0 (by decide) rfl rfl wsM_ok tyM tyM_ok nmM 21 (by decide) wd511 rfl rfl rfl (Nat.le_of_ble_eq_true rfl) dM_extend_215 (LMf_spanned κ o178_22 X _) ?_
        obtain rfl := Option.some.inj h
        exact w_vret (pc := 218) G dM_extend_218 Fh
    · have h := if_f c140 h
      refine w_iconst (pc := 166) (v := (1 : Int32)) G dM_extend_166 (by decide) ?_
      refine w_goto (pc := 167) (tgt := 171) G dM_extend_167 (by decide) ?_
      refine w_istore_n (pc := 171) (lv' := [(2, .int (1 : Int32)), (0, .ref (κ.1 0))]) G dM_extend_171 rfl (by decide) rfl ?_
      refine w_iload_n (pc := 172) (q := 0) G dM_extend_172 rfl rfl ?_
      refine w_if_eq (pc := 173) (tgt := 218) G dM_extend_173 (by decide) (fun c => absurd c (by decide)) (fun _ => ?_)
      refine w_iconst (pc := 176) (v := (0 : Int32)) G dM_extend_176 (by decide) ?_
      refine w_istore_n (pc := 177) (lv' := [(3, .int (0 : Int32)), (2, .int (1 : Int32)), (0, .ref (κ.1 0))]) G dM_extend_177 rfl (by decide) rfl ?_
      refine w_sub (lv' := [(0, .ref (κ.1 0)), (3, .int (0 : Int32))]) [2, 0] rfl ?_
      obtain ⟨o178_24, eo178_24, h⟩ := bd h
      refine lM_extend_178_ok G X F  F (0 : Int32) o29_10 o178_24 eo178_24 ?_
      refine w_aload_n (pc := 208) (q := 0) G dM_extend_208 rfl rfl ?_
      refine w_dup (pc := 209) G dM_extend_209 rfl ?_
      refine w_get (pc := 210) (v := .int (m_spanned o178_24)) (fs := mfl κ o178_24) G 0 (by decide) rfl rfl wsM_ok 21 (by decide) wd511 rfl dM_extend_210 ?_
      refine w_iconst (pc := 213) (v := (1 : Int32)) G dM_extend_213 (by decide) ?_
      refine w_iadd (pc := 214) G dM_extend_214 ?_
      refine w_put (pc := 215) (fs := mfl κ o178_24) (L1 := (LM κ (s_spanned o178_24 (((m_spanned o178_24) + (1 : Int32)))) X)) G 0 (by decide) rfl rfl wsM_ok tyM tyM_ok nmM 21 (by decide) wd511 rfl rfl rfl (Nat.le_of_ble_eq_true rfl) dM_extend_215 (LMf_spanned κ o178_24 X _) ?_
      obtain rfl := Option.some.inj h
      exact w_vret (pc := 218) G dM_extend_218 Fh
  · have h := if_f c129 h
    refine w_iconst (pc := 166) (v := (1 : Int32)) G dM_extend_166 (by decide) ?_
    refine w_goto (pc := 167) (tgt := 171) G dM_extend_167 (by decide) ?_
    refine w_istore_n (pc := 171) (lv' := [(2, .int (1 : Int32)), (0, .ref (κ.1 0))]) G dM_extend_171 rfl (by decide) rfl ?_
    refine w_iload_n (pc := 172) (q := 0) G dM_extend_172 rfl rfl ?_
    refine w_if_eq (pc := 173) (tgt := 218) G dM_extend_173 (by decide) (fun c => absurd c (by decide)) (fun _ => ?_)
    refine w_iconst (pc := 176) (v := (0 : Int32)) G dM_extend_176 (by decide) ?_
    refine w_istore_n (pc := 177) (lv' := [(3, .int (0 : Int32)), (2, .int (1 : Int32)), (0, .ref (κ.1 0))]) G dM_extend_177 rfl (by decide) rfl ?_
    refine w_sub (lv' := [(0, .ref (κ.1 0)), (3, .int (0 : Int32))]) [2, 0] rfl ?_
    obtain ⟨o178_26, eo178_26, h⟩ := bd h
    refine lM_extend_178_ok G X F  F (0 : Int32) o29_10 o178_26 eo178_26 ?_
    refine w_aload_n (pc := 208) (q := 0) G dM_extend_208 rfl rfl ?_
    refine w_dup (pc := 209) G dM_extend_209 rfl ?_
    refine w_get (pc := 210) (v := .int (m_spanned o178_26)) (fs := mfl κ o178_26) G 0 (by decide) rfl rfl wsM_ok 21 (by decide) wd511 rfl dM_extend_210 ?_
    refine w_iconst (pc := 213) (v := (1 : Int32)) G dM_extend_213 (by decide) ?_
    refine w_iadd (pc := 214) G dM_extend_214 ?_
    refine w_put (pc := 215) (fs := mfl κ o178_26) (L1 := (LM κ (s_spanned o178_26 (((m_spanned o178_26) + (1 : Int32)))) X)) G 0 (by decide) rfl rfl wsM_ok tyM tyM_ok nmM 21 (by decide) wd511 rfl rfl rfl (Nat.le_of_ble_eq_true rfl) dM_extend_215 (LMf_spanned κ o178_26 X _) ?_
    obtain rfl := Option.some.inj h
    exact w_vret (pc := 218) G dM_extend_218 Fh
def rm_M_compare : Room := { frames := 0, cells := 0, slots := 0, locals := 0 }
theorem dM_compare_0 : decode cM_compare 0 = .ok (.aload_n 0, 1) := by decide +kernel
theorem dM_compare_1 : decode cM_compare 1 = .ok (.getfield 210, 3) := by decide +kernel
theorem dM_compare_4 : decode cM_compare 4 = .ok (.ifCond .eq 12, 3) := by decide +kernel
theorem dM_compare_7 : decode cM_compare 7 = .ok (.lload_n 2, 1) := by decide +kernel
theorem dM_compare_8 : decode cM_compare 8 = .ok (.aload_n 0, 1) := by decide +kernel
theorem dM_compare_9 : decode cM_compare 9 = .ok (.getfield 132, 3) := by decide +kernel
theorem dM_compare_12 : decode cM_compare 12 = .ok (.lcmp, 1) := by decide +kernel
theorem dM_compare_13 : decode cM_compare 13 = .ok (.ifCond .ge 7, 3) := by decide +kernel
theorem dM_compare_16 : decode cM_compare 16 = .ok (.iconst 1, 1) := by decide +kernel
theorem dM_compare_17 : decode cM_compare 17 = .ok (.goto 4, 3) := by decide +kernel
theorem dM_compare_20 : decode cM_compare 20 = .ok (.iconst 0, 1) := by decide +kernel
theorem dM_compare_21 : decode cM_compare 21 = .ok (.istore 4, 2) := by decide +kernel
theorem dM_compare_23 : decode cM_compare 23 = .ok (.aload_n 0, 1) := by decide +kernel
theorem dM_compare_24 : decode cM_compare 24 = .ok (.getfield 210, 3) := by decide +kernel
theorem dM_compare_27 : decode cM_compare 27 = .ok (.ifCond .eq 74, 3) := by decide +kernel
theorem dM_compare_30 : decode cM_compare 30 = .ok (.lload_n 2, 1) := by decide +kernel
theorem dM_compare_31 : decode cM_compare 31 = .ok (.aload_n 0, 1) := by decide +kernel
theorem dM_compare_32 : decode cM_compare 32 = .ok (.getfield 132, 3) := by decide +kernel
theorem dM_compare_35 : decode cM_compare 35 = .ok (.lcmp, 1) := by decide +kernel
theorem dM_compare_36 : decode cM_compare 36 = .ok (.ifCond .ne 65, 3) := by decide +kernel
theorem dM_compare_39 : decode cM_compare 39 = .ok (.iconst 0, 1) := by decide +kernel
theorem dM_compare_40 : decode cM_compare 40 = .ok (.istore 5, 2) := by decide +kernel
theorem dM_compare_42 : decode cM_compare 42 = .ok (.iload 5, 2) := by decide +kernel
theorem dM_compare_44 : decode cM_compare 44 = .ok (.iconst 3, 1) := by decide +kernel
theorem dM_compare_45 : decode cM_compare 45 = .ok (.if_icmp .ge 29, 3) := by decide +kernel
theorem dM_compare_48 : decode cM_compare 48 = .ok (.aload_n 0, 1) := by decide +kernel
theorem dM_compare_49 : decode cM_compare 49 = .ok (.getfield 29, 3) := by decide +kernel
theorem dM_compare_52 : decode cM_compare 52 = .ok (.iload_n 1, 1) := by decide +kernel
theorem dM_compare_53 : decode cM_compare 53 = .ok (.iload 5, 2) := by decide +kernel
theorem dM_compare_55 : decode cM_compare 55 = .ok (.iadd, 1) := by decide +kernel
theorem dM_compare_56 : decode cM_compare 56 = .ok (.laload, 1) := by decide +kernel
theorem dM_compare_57 : decode cM_compare 57 = .ok (.aload_n 0, 1) := by decide +kernel
theorem dM_compare_58 : decode cM_compare 58 = .ok (.getfield 50, 3) := by decide +kernel
theorem dM_compare_61 : decode cM_compare 61 = .ok (.iload 5, 2) := by decide +kernel
theorem dM_compare_63 : decode cM_compare 63 = .ok (.laload, 1) := by decide +kernel
theorem dM_compare_64 : decode cM_compare 64 = .ok (.lcmp, 1) := by decide +kernel
theorem dM_compare_65 : decode cM_compare 65 = .ok (.ifCond .ne 9, 3) := by decide +kernel
theorem dM_compare_68 : decode cM_compare 68 = .ok (.iinc 5 1, 3) := by decide +kernel
theorem dM_compare_71 : decode cM_compare 71 = .ok (.goto (-29), 3) := by decide +kernel
theorem dM_compare_74 : decode cM_compare 74 = .ok (.aload_n 0, 1) := by decide +kernel
theorem dM_compare_75 : decode cM_compare 75 = .ok (.getfield 29, 3) := by decide +kernel
theorem dM_compare_78 : decode cM_compare 78 = .ok (.iload_n 1, 1) := by decide +kernel
theorem dM_compare_79 : decode cM_compare 79 = .ok (.iload 5, 2) := by decide +kernel
theorem dM_compare_81 : decode cM_compare 81 = .ok (.iadd, 1) := by decide +kernel
theorem dM_compare_82 : decode cM_compare 82 = .ok (.laload, 1) := by decide +kernel
theorem dM_compare_83 : decode cM_compare 83 = .ok (.aload_n 0, 1) := by decide +kernel
theorem dM_compare_84 : decode cM_compare 84 = .ok (.getfield 50, 3) := by decide +kernel
theorem dM_compare_87 : decode cM_compare 87 = .ok (.iload 5, 2) := by decide +kernel
theorem dM_compare_89 : decode cM_compare 89 = .ok (.laload, 1) := by decide +kernel
theorem dM_compare_90 : decode cM_compare 90 = .ok (.lcmp, 1) := by decide +kernel
theorem dM_compare_91 : decode cM_compare 91 = .ok (.ifCond .ge 7, 3) := by decide +kernel
theorem dM_compare_94 : decode cM_compare 94 = .ok (.iconst 1, 1) := by decide +kernel
theorem dM_compare_95 : decode cM_compare 95 = .ok (.goto 4, 3) := by decide +kernel
theorem dM_compare_98 : decode cM_compare 98 = .ok (.iconst 0, 1) := by decide +kernel
theorem dM_compare_99 : decode cM_compare 99 = .ok (.istore 4, 2) := by decide +kernel
theorem dM_compare_101 : decode cM_compare 101 = .ok (.iload 4, 2) := by decide +kernel
theorem dM_compare_103 : decode cM_compare 103 = .ok (.ifCond .eq 44, 3) := by decide +kernel
theorem dM_compare_106 : decode cM_compare 106 = .ok (.aload_n 0, 1) := by decide +kernel
theorem dM_compare_107 : decode cM_compare 107 = .ok (.iconst 1, 1) := by decide +kernel
theorem dM_compare_108 : decode cM_compare 108 = .ok (.putfield 210, 3) := by decide +kernel
theorem dM_compare_111 : decode cM_compare 111 = .ok (.aload_n 0, 1) := by decide +kernel
theorem dM_compare_112 : decode cM_compare 112 = .ok (.lload_n 2, 1) := by decide +kernel
theorem dM_compare_113 : decode cM_compare 113 = .ok (.putfield 132, 3) := by decide +kernel
theorem dM_compare_116 : decode cM_compare 116 = .ok (.iconst 0, 1) := by decide +kernel
theorem dM_compare_117 : decode cM_compare 117 = .ok (.istore 5, 2) := by decide +kernel
theorem dM_compare_119 : decode cM_compare 119 = .ok (.iload 5, 2) := by decide +kernel
theorem dM_compare_121 : decode cM_compare 121 = .ok (.iconst 4, 1) := by decide +kernel
theorem dM_compare_122 : decode cM_compare 122 = .ok (.if_icmp .ge 25, 3) := by decide +kernel
theorem dM_compare_125 : decode cM_compare 125 = .ok (.aload_n 0, 1) := by decide +kernel
theorem dM_compare_126 : decode cM_compare 126 = .ok (.getfield 50, 3) := by decide +kernel
theorem dM_compare_129 : decode cM_compare 129 = .ok (.iload 5, 2) := by decide +kernel
theorem dM_compare_131 : decode cM_compare 131 = .ok (.aload_n 0, 1) := by decide +kernel
theorem dM_compare_132 : decode cM_compare 132 = .ok (.getfield 29, 3) := by decide +kernel
theorem dM_compare_135 : decode cM_compare 135 = .ok (.iload_n 1, 1) := by decide +kernel
theorem dM_compare_136 : decode cM_compare 136 = .ok (.iload 5, 2) := by decide +kernel
theorem dM_compare_138 : decode cM_compare 138 = .ok (.iadd, 1) := by decide +kernel
theorem dM_compare_139 : decode cM_compare 139 = .ok (.laload, 1) := by decide +kernel
theorem dM_compare_140 : decode cM_compare 140 = .ok (.lastore, 1) := by decide +kernel
theorem dM_compare_141 : decode cM_compare 141 = .ok (.iinc 5 1, 3) := by decide +kernel
theorem dM_compare_144 : decode cM_compare 144 = .ok (.goto (-25), 3) := by decide +kernel
theorem dM_compare_147 : decode cM_compare 147 = .ok (.return_, 1) := by decide +kernel
noncomputable def lM_compare_119 (F : Nat) (v1 : Int32) : Nat → Int32 → MS → Option (MS)
  | 0, _, _ => none
  | n + 1, v5, τ => if (4 : Int32) ≤ v5 then some (τ) else gd (vp_in (v1 + v5) 20) (gd (vp_in v5 4) (lM_compare_119 F v1 n (v5 + 1) (s_found τ (vp_updL (m_found τ) v5.toNatClampNeg ((m_made τ) (v1 + v5).toNatClampNeg)))))
set_option maxHeartbeats 4000000 in
set_option maxRecDepth 100000 in
theorem lM_compare_119_ok {g : Gm} {κ : ctx} (G : OK g κ RM cM_compare 6 none rm_M_compare) (X : Nat → va_E) (F : Nat) (v1 : Int32) : ∀ (n : Nat) (v5 : Int32) (τ : MS) (out : MS), lM_compare_119 F v1 n v5 τ = some out → (J g κ 6 147 [] [] (LM κ out X)) → J g κ 6 119 [(0, .ref (κ.1 0)), (1, .int v1), (5, .int v5)] [] (LM κ τ X) := by
  intro n
  induction n with
  | zero =>
    intro v5 τ
    intro out h
    rw [lM_compare_119] at h
    cases h
  | succ n ih =>
    intro v5 τ out h K
    rw [lM_compare_119] at h
    refine w_iload (pc := 119) (q := 2) G dM_compare_119 rfl ?_
    refine w_iconst (pc := 121) (v := (4 : Int32)) G dM_compare_121 (by decide) ?_
    refine w_icmp_ge (pc := 122) (tgt := 147) G dM_compare_122 (by decide) (fun c122 => ?_) (fun c122 => ?_)
    · have h := if_t c122 h
      obtain rfl := Option.some.inj h
      refine w_sub (lv' := []) [] rfl ?_
      exact K
    · have h := if_f c122 h
      refine w_aload_n (pc := 125) (q := 0) G dM_compare_125 rfl rfl ?_
      refine w_get (pc := 126) (v := .ref (κ.1 14)) (fs := mfl κ τ) G 0 (by decide) rfl rfl wsM_ok 25 (by decide) wd515 rfl dM_compare_126 ?_
      refine w_iload (pc := 129) (q := 2) G dM_compare_129 rfl ?_
      refine w_aload_n (pc := 131) (q := 0) G dM_compare_131 rfl rfl ?_
      refine w_get (pc := 132) (v := .ref (κ.1 7)) (fs := mfl κ τ) G 0 (by decide) rfl rfl wsM_ok 10 (by decide) wd500 rfl dM_compare_132 ?_
      refine w_iload_n (pc := 135) (q := 1) G dM_compare_135 rfl rfl ?_
      refine w_iload (pc := 136) (q := 2) G dM_compare_136 rfl ?_
      refine w_iadd (pc := 138) G dM_compare_138 ?_
      obtain ⟨i139, h⟩ := gd_some h
      refine w_lald (pc := 139) (n := 20) (f := (m_made τ)) G 7 (by decide) rfl i139 dM_compare_139 ?_
      obtain ⟨i140, h⟩ := gd_some h
      refine w_last (pc := 140) (n := 4) (f := (m_found τ)) (L1 := (LM κ (s_found τ (vp_updL (m_found τ) v5.toNatClampNeg ((m_made τ) (v1 + v5).toNatClampNeg))) X)) G 14 (by decide) rfl i140 dM_compare_140 (LM_found κ τ X _) ?_
      refine w_iinc (pc := 141) (q0 := 2) (v := (v5 + 1)) (lv' := [(5, .int (v5 + 1)), (0, .ref (κ.1 0)), (1, .int v1)]) G dM_compare_141 rfl rfl (by decide) rfl ?_
      refine w_goto (pc := 144) (tgt := 119) G dM_compare_144 (by decide) ?_
      refine w_sub (lv' := [(0, .ref (κ.1 0)), (1, .int v1), (5, .int (v5 + 1))]) [1, 2, 0] rfl ?_
      exact ih (v5 + 1) (s_found τ (vp_updL (m_found τ) v5.toNatClampNeg ((m_made τ) (v1 + v5).toNatClampNeg))) out h K
noncomputable def lM_compare_42 (F : Nat) (τ : MS) (v1 : Int32) (v2 : Int64) : Nat → Int32 → Option (Int32)
  | 0, _ => none
  | n + 1, v5 => if (3 : Int32) ≤ v5 then some (v5) else gd (vp_in (v1 + v5) 20) (gd (vp_in v5 4) (if ((m_made τ) (v1 + v5).toNatClampNeg) = ((m_found τ) v5.toNatClampNeg) then lM_compare_42 F τ v1 v2 n (v5 + 1) else some (v5)))
set_option maxHeartbeats 4000000 in
set_option maxRecDepth 100000 in
theorem lM_compare_42_ok {g : Gm} {κ : ctx} (G : OK g κ RM cM_compare 6 none rm_M_compare) (X : Nat → va_E) (F : Nat) (τ : MS) (v1 : Int32) (v2 : Int64) : ∀ (n : Nat) (v5 : Int32) (out : Int32), lM_compare_42 F τ v1 v2 n v5 = some out → (J g κ 6 74 [(0, .ref (κ.1 0)), (1, .int v1), (2, .long v2), (5, .int out)] [] (LM κ τ X)) → J g κ 6 42 [(0, .ref (κ.1 0)), (1, .int v1), (2, .long v2), (5, .int v5)] [] (LM κ τ X) := by
  intro n
  induction n with
  | zero =>
    intro v5
    intro out h
    rw [lM_compare_42] at h
    cases h
  | succ n ih =>
    intro v5 out h K
    rw [lM_compare_42] at h
    refine w_iload (pc := 42) (q := 3) G dM_compare_42 rfl ?_
    refine w_iconst (pc := 44) (v := (3 : Int32)) G dM_compare_44 (by decide) ?_
    refine w_icmp_ge (pc := 45) (tgt := 74) G dM_compare_45 (by decide) (fun c45 => ?_) (fun c45 => ?_)
    · have h := if_t c45 h
      obtain rfl := Option.some.inj h
      refine w_sub (lv' := [(0, .ref (κ.1 0)), (1, .int v1), (2, .long v2), (5, .int v5)]) [0, 1, 2, 3] rfl ?_
      exact K
    · have h := if_f c45 h
      refine w_aload_n (pc := 48) (q := 0) G dM_compare_48 rfl rfl ?_
      refine w_get (pc := 49) (v := .ref (κ.1 7)) (fs := mfl κ τ) G 0 (by decide) rfl rfl wsM_ok 10 (by decide) wd500 rfl dM_compare_49 ?_
      refine w_iload_n (pc := 52) (q := 1) G dM_compare_52 rfl rfl ?_
      refine w_iload (pc := 53) (q := 3) G dM_compare_53 rfl ?_
      refine w_iadd (pc := 55) G dM_compare_55 ?_
      obtain ⟨i56, h⟩ := gd_some h
      refine w_lald (pc := 56) (n := 20) (f := (m_made τ)) G 7 (by decide) rfl i56 dM_compare_56 ?_
      refine w_aload_n (pc := 57) (q := 0) G dM_compare_57 rfl rfl ?_
      refine w_get (pc := 58) (v := .ref (κ.1 14)) (fs := mfl κ τ) G 0 (by decide) rfl rfl wsM_ok 25 (by decide) wd515 rfl dM_compare_58 ?_
      refine w_iload (pc := 61) (q := 3) G dM_compare_61 rfl ?_
      obtain ⟨i63, h⟩ := gd_some h
      refine w_lald (pc := 63) (n := 4) (f := (m_found τ)) G 14 (by decide) rfl i63 dM_compare_63 ?_
      refine w_lc_ne (pc := 64) (tgt := 74) G dM_compare_64 dM_compare_65 (by decide) (fun c64 => ?_) (fun c64 => ?_)
      · have h := if_t c64 h
        refine w_iinc (pc := 68) (q0 := 3) (v := (v5 + 1)) (lv' := [(5, .int (v5 + 1)), (0, .ref (κ.1 0)), (1, .int v1), (2, .long v2)]) G dM_compare_68 rfl rfl (by decide) rfl ?_
        refine w_goto (pc := 71) (tgt := 42) G dM_compare_71 (by decide) ?_
        refine w_sub (lv' := [(0, .ref (κ.1 0)), (1, .int v1), (2, .long v2), (5, .int (v5 + 1))]) [1, 2, 3, 0] rfl ?_
        exact ih (v5 + 1) out h K
      · have h := if_f c64 h
        obtain rfl := Option.some.inj h
        refine w_sub (lv' := [(0, .ref (κ.1 0)), (1, .int v1), (2, .long v2), (5, .int v5)]) [0, 1, 2, 3] rfl ?_
        exact K
noncomputable def M_compare (F : Nat) (τ : MS) (v1 : Int32) (v2 : Int64) : Option (MS) := if (m_any τ) = 0 then if (m_any τ) = 0 then (lM_compare_119 F v1 F (0 : Int32) (s_any (s_limit τ (v2)) ((1 : Int32)))).bind (fun o119_7 => some o119_7) else if v2 = (m_limit τ) then (lM_compare_42 F τ v1 v2 F (0 : Int32)).bind (fun o42_14 => gd (vp_in (v1 + o42_14) 20) (gd (vp_in o42_14 4) (if ((m_found τ) o42_14.toNatClampNeg) ≤ ((m_made τ) (v1 + o42_14).toNatClampNeg) then some τ else (lM_compare_119 F v1 F (0 : Int32) (s_any (s_limit τ (v2)) ((1 : Int32)))).bind (fun o119_18 => some o119_18)))) else (lM_compare_119 F v1 F (0 : Int32) (s_any (s_limit τ (v2)) ((1 : Int32)))).bind (fun o119_20 => some o119_20) else if (m_limit τ) ≤ v2 then if (m_any τ) = 0 then some τ else if v2 = (m_limit τ) then (lM_compare_42 F τ v1 v2 F (0 : Int32)).bind (fun o42_26 => gd (vp_in (v1 + o42_26) 20) (gd (vp_in o42_26 4) (if ((m_found τ) o42_26.toNatClampNeg) ≤ ((m_made τ) (v1 + o42_26).toNatClampNeg) then some τ else (lM_compare_119 F v1 F (0 : Int32) (s_any (s_limit τ (v2)) ((1 : Int32)))).bind (fun o119_30 => some o119_30)))) else some τ else if (m_any τ) = 0 then (lM_compare_119 F v1 F (0 : Int32) (s_any (s_limit τ (v2)) ((1 : Int32)))).bind (fun o119_35 => some o119_35) else if v2 = (m_limit τ) then (lM_compare_42 F τ v1 v2 F (0 : Int32)).bind (fun o42_37 => gd (vp_in (v1 + o42_37) 20) (gd (vp_in o42_37 4) (if ((m_found τ) o42_37.toNatClampNeg) ≤ ((m_made τ) (v1 + o42_37).toNatClampNeg) then some τ else (lM_compare_119 F v1 F (0 : Int32) (s_any (s_limit τ (v2)) ((1 : Int32)))).bind (fun o119_41 => some o119_41)))) else (lM_compare_119 F v1 F (0 : Int32) (s_any (s_limit τ (v2)) ((1 : Int32)))).bind (fun o119_43 => some o119_43)
set_option maxHeartbeats 4000000 in
set_option maxRecDepth 100000 in
theorem met_M_compare (κ : ctx) (X : Nat → va_E) (F : Nat) (τ : MS) (v1 : Int32) (v2 : Int64) {out : MS} (h : M_compare F τ v1 v2 = some out) : Mt yM_compare cM_compare 6 none rm_M_compare κ [.ref (κ.1 0), .int v1, .long v2] (LM κ τ X) none (LM κ out X) := by
  refine Mt.of (by decide) (Nat.le_of_ble_eq_true rfl) ?_
  intro g G Fh
  unfold M_compare at h
  show J g κ 6 0 [(0, .ref (κ.1 0)), (1, .int v1), (2, .long v2)] [] (LM κ τ X)
  refine w_aload_n (pc := 0) (q := 0) G dM_compare_0 rfl rfl ?_
  refine w_get (pc := 1) (v := .int (m_any τ)) (fs := mfl κ τ) G 0 (by decide) rfl rfl wsM_ok 26 (by decide) wd516 rfl dM_compare_1 ?_
  refine w_if_eq (pc := 4) (tgt := 16) G dM_compare_4 (by decide) (fun c4 => ?_) (fun c4 => ?_)
  · have h := if_t c4 h
    refine w_iconst (pc := 16) (v := (1 : Int32)) G dM_compare_16 (by decide) ?_
    refine w_goto (pc := 17) (tgt := 21) G dM_compare_17 (by decide) ?_
    refine w_istore (pc := 21) (lv' := [(4, .int (1 : Int32)), (0, .ref (κ.1 0)), (1, .int v1), (2, .long v2)]) G dM_compare_21 (by decide) rfl ?_
    refine w_aload_n (pc := 23) (q := 1) G dM_compare_23 rfl rfl ?_
    refine w_get (pc := 24) (v := .int (m_any τ)) (fs := mfl κ τ) G 0 (by decide) rfl rfl wsM_ok 26 (by decide) wd516 rfl dM_compare_24 ?_
    refine w_if_eq (pc := 27) (tgt := 101) G dM_compare_27 (by decide) (fun c27 => ?_) (fun c27 => ?_)
    · have h := if_t c27 h
      refine w_iload (pc := 101) (q := 0) G dM_compare_101 rfl ?_
      refine w_if_eq (pc := 103) (tgt := 147) G dM_compare_103 (by decide) (fun c => absurd c (by decide)) (fun _ => ?_)
      refine w_aload_n (pc := 106) (q := 1) G dM_compare_106 rfl rfl ?_
      refine w_iconst (pc := 107) (v := (1 : Int32)) G dM_compare_107 (by decide) ?_
      refine w_put (pc := 108) (fs := mfl κ τ) (L1 := (LM κ (s_any τ ((1 : Int32))) X)) G 0 (by decide) rfl rfl wsM_ok tyM tyM_ok nmM 26 (by decide) wd516 rfl rfl rfl (Nat.le_of_ble_eq_true rfl) dM_compare_108 (LMf_any κ τ X _) ?_
      refine w_aload_n (pc := 111) (q := 1) G dM_compare_111 rfl rfl ?_
      refine w_lload_n (pc := 112) (q := 3) G dM_compare_112 rfl rfl ?_
      refine w_put (pc := 113) (fs := mfl κ (s_any τ ((1 : Int32)))) (L1 := (LM κ (s_any (s_limit τ (v2)) ((1 : Int32))) X)) G 0 (by decide) rfl rfl wsM_ok tyM tyM_ok nmM 13 (by decide) wd503 rfl rfl rfl (Nat.le_of_ble_eq_true rfl) dM_compare_113 (LMf_limit κ (s_any τ ((1 : Int32))) X _) ?_
      refine w_iconst (pc := 116) (v := (0 : Int32)) G dM_compare_116 (by decide) ?_
      refine w_istore (pc := 117) (lv' := [(5, .int (0 : Int32)), (4, .int (1 : Int32)), (0, .ref (κ.1 0)), (1, .int v1), (2, .long v2)]) G dM_compare_117 (by decide) rfl ?_
      refine w_sub (lv' := [(0, .ref (κ.1 0)), (1, .int v1), (5, .int (0 : Int32))]) [2, 3, 0] rfl ?_
      obtain ⟨o119_7, eo119_7, h⟩ := bd h
      refine lM_compare_119_ok G X F v1 F (0 : Int32) (s_any (s_limit τ (v2)) ((1 : Int32))) o119_7 eo119_7 ?_
      obtain rfl := Option.some.inj h
      exact w_vret (pc := 147) G dM_compare_147 Fh
    · have h := if_f c27 h
      refine w_lload_n (pc := 30) (q := 3) G dM_compare_30 rfl rfl ?_
      refine w_aload_n (pc := 31) (q := 1) G dM_compare_31 rfl rfl ?_
      refine w_get (pc := 32) (v := .long (m_limit τ)) (fs := mfl κ τ) G 0 (by decide) rfl rfl wsM_ok 13 (by decide) wd503 rfl dM_compare_32 ?_
      refine w_lc_ne (pc := 35) (tgt := 101) G dM_compare_35 dM_compare_36 (by decide) (fun c35 => ?_) (fun c35 => ?_)
      · have h := if_t c35 h
        refine w_iconst (pc := 39) (v := (0 : Int32)) G dM_compare_39 (by decide) ?_
        refine w_istore (pc := 40) (lv' := [(5, .int (0 : Int32)), (4, .int (1 : Int32)), (0, .ref (κ.1 0)), (1, .int v1), (2, .long v2)]) G dM_compare_40 (by decide) rfl ?_
        refine w_sub (lv' := [(0, .ref (κ.1 0)), (1, .int v1), (2, .long v2), (5, .int (0 : Int32))]) [2, 3, 4, 0] rfl ?_
        obtain ⟨o42_14, eo42_14, h⟩ := bd h
        refine lM_compare_42_ok G X F τ v1 v2 F (0 : Int32) o42_14 eo42_14 ?_
        refine w_aload_n (pc := 74) (q := 0) G dM_compare_74 rfl rfl ?_
        refine w_get (pc := 75) (v := .ref (κ.1 7)) (fs := mfl κ τ) G 0 (by decide) rfl rfl wsM_ok 10 (by decide) wd500 rfl dM_compare_75 ?_
        refine w_iload_n (pc := 78) (q := 1) G dM_compare_78 rfl rfl ?_
        refine w_iload (pc := 79) (q := 3) G dM_compare_79 rfl ?_
        refine w_iadd (pc := 81) G dM_compare_81 ?_
        obtain ⟨i82, h⟩ := gd_some h
        refine w_lald (pc := 82) (n := 20) (f := (m_made τ)) G 7 (by decide) rfl i82 dM_compare_82 ?_
        refine w_aload_n (pc := 83) (q := 0) G dM_compare_83 rfl rfl ?_
        refine w_get (pc := 84) (v := .ref (κ.1 14)) (fs := mfl κ τ) G 0 (by decide) rfl rfl wsM_ok 25 (by decide) wd515 rfl dM_compare_84 ?_
        refine w_iload (pc := 87) (q := 3) G dM_compare_87 rfl ?_
        obtain ⟨i89, h⟩ := gd_some h
        refine w_lald (pc := 89) (n := 4) (f := (m_found τ)) G 14 (by decide) rfl i89 dM_compare_89 ?_
        refine w_lc_ge (pc := 90) (tgt := 98) G dM_compare_90 dM_compare_91 (by decide) (fun c90 => ?_) (fun c90 => ?_)
        · have h := if_t c90 h
          refine w_iconst (pc := 98) (v := (0 : Int32)) G dM_compare_98 (by decide) ?_
          refine w_istore (pc := 99) (lv' := [(4, .int (0 : Int32)), (0, .ref (κ.1 0)), (1, .int v1), (2, .long v2), (5, .int o42_14)]) G dM_compare_99 (by decide) rfl ?_
          refine w_iload (pc := 101) (q := 0) G dM_compare_101 rfl ?_
          refine w_if_eq (pc := 103) (tgt := 147) G dM_compare_103 (by decide) (fun _ => ?_) (fun c => absurd (by decide) c)
          obtain rfl := Option.some.inj h
          exact w_vret (pc := 147) G dM_compare_147 Fh
        · have h := if_f c90 h
          refine w_iconst (pc := 94) (v := (1 : Int32)) G dM_compare_94 (by decide) ?_
          refine w_goto (pc := 95) (tgt := 99) G dM_compare_95 (by decide) ?_
          refine w_istore (pc := 99) (lv' := [(4, .int (1 : Int32)), (0, .ref (κ.1 0)), (1, .int v1), (2, .long v2), (5, .int o42_14)]) G dM_compare_99 (by decide) rfl ?_
          refine w_iload (pc := 101) (q := 0) G dM_compare_101 rfl ?_
          refine w_if_eq (pc := 103) (tgt := 147) G dM_compare_103 (by decide) (fun c => absurd c (by decide)) (fun _ => ?_)
          refine w_aload_n (pc := 106) (q := 1) G dM_compare_106 rfl rfl ?_
          refine w_iconst (pc := 107) (v := (1 : Int32)) G dM_compare_107 (by decide) ?_
          refine w_put (pc := 108) (fs := mfl κ τ) (L1 := (LM κ (s_any τ ((1 : Int32))) X)) G 0 (by decide) rfl rfl wsM_ok tyM tyM_ok nmM 26 (by decide) wd516 rfl rfl rfl (Nat.le_of_ble_eq_true rfl) dM_compare_108 (LMf_any κ τ X _) ?_
          refine w_aload_n (pc := 111) (q := 1) G dM_compare_111 rfl rfl ?_
          refine w_lload_n (pc := 112) (q := 3) G dM_compare_112 rfl rfl ?_
          refine w_put (pc := 113) (fs := mfl κ (s_any τ ((1 : Int32)))) (L1 := (LM κ (s_any (s_limit τ (v2)) ((1 : Int32))) X)) G 0 (by decide) rfl rfl wsM_ok tyM tyM_ok nmM 13 (by decide) wd503 rfl rfl rfl (Nat.le_of_ble_eq_true rfl) dM_compare_113 (LMf_limit κ (s_any τ ((1 : Int32))) X _) ?_
          refine w_iconst (pc := 116) (v := (0 : Int32)) G dM_compare_116 (by decide) ?_
          refine w_istore (pc := 117) (lv' := [(5, .int (0 : Int32)), (4, .int (1 : Int32)), (0, .ref (κ.1 0)), (1, .int v1), (2, .long v2)]) G dM_compare_117 (by decide) rfl ?_
          refine w_sub (lv' := [(0, .ref (κ.1 0)), (1, .int v1), (5, .int (0 : Int32))]) [2, 3, 0] rfl ?_
          obtain ⟨o119_18, eo119_18, h⟩ := bd h
          refine lM_compare_119_ok G X F v1 F (0 : Int32) (s_any (s_limit τ (v2)) ((1 : Int32))) o119_18 eo119_18 ?_
          obtain rfl := Option.some.inj h
          exact w_vret (pc := 147) G dM_compare_147 Fh
      · have h := if_f c35 h
        refine w_iload (pc := 101) (q := 0) G dM_compare_101 rfl ?_
        refine w_if_eq (pc := 103) (tgt := 147) G dM_compare_103 (by decide) (fun c => absurd c (by decide)) (fun _ => ?_)
        refine w_aload_n (pc := 106) (q := 1) G dM_compare_106 rfl rfl ?_
        refine w_iconst (pc := 107) (v := (1 : Int32)) G dM_compare_107 (by decide) ?_
        refine w_put (pc := 108) (fs := mfl κ τ) (L1 := (LM κ (s_any τ ((1 : Int32))) X)) G 0 (by decide) rfl rfl wsM_ok tyM tyM_ok nmM 26 (by decide) wd516 rfl rfl rfl (Nat.le_of_ble_eq_true rfl) dM_compare_108 (LMf_any κ τ X _) ?_
        refine w_aload_n (pc := 111) (q := 1) G dM_compare_111 rfl rfl ?_
        refine w_lload_n (pc := 112) (q := 3) G dM_compare_112 rfl rfl ?_
        refine w_put (pc := 113) (fs := mfl κ (s_any τ ((1 : Int32)))) (L1 := (LM κ (s_any (s_limit τ (v2)) ((1 : Int32))) X)) G 0 (by decide) rfl rfl wsM_ok tyM tyM_ok nmM 13 (by decide) wd503 rfl rfl rfl (Nat.le_of_ble_eq_true rfl) dM_compare_113 (LMf_limit κ (s_any τ ((1 : Int32))) X _) ?_
        refine w_iconst (pc := 116) (v := (0 : Int32)) G dM_compare_116 (by decide) ?_
        refine w_istore (pc := 117) (lv' := [(5, .int (0 : Int32)), (4, .int (1 : Int32)), (0, .ref (κ.1 0)), (1, .int v1), (2, .long v2)]) G dM_compare_117 (by decide) rfl ?_
        refine w_sub (lv' := [(0, .ref (κ.1 0)), (1, .int v1), (5, .int (0 : Int32))]) [2, 3, 0] rfl ?_
        obtain ⟨o119_20, eo119_20, h⟩ := bd h
        refine lM_compare_119_ok G X F v1 F (0 : Int32) (s_any (s_limit τ (v2)) ((1 : Int32))) o119_20 eo119_20 ?_
        obtain rfl := Option.some.inj h
        exact w_vret (pc := 147) G dM_compare_147 Fh
  · have h := if_f c4 h
    refine w_lload_n (pc := 7) (q := 2) G dM_compare_7 rfl rfl ?_
    refine w_aload_n (pc := 8) (q := 0) G dM_compare_8 rfl rfl ?_
    refine w_get (pc := 9) (v := .long (m_limit τ)) (fs := mfl κ τ) G 0 (by decide) rfl rfl wsM_ok 13 (by decide) wd503 rfl dM_compare_9 ?_
    refine w_lc_ge (pc := 12) (tgt := 20) G dM_compare_12 dM_compare_13 (by decide) (fun c12 => ?_) (fun c12 => ?_)
    · have h := if_t c12 h
      refine w_iconst (pc := 20) (v := (0 : Int32)) G dM_compare_20 (by decide) ?_
      refine w_istore (pc := 21) (lv' := [(4, .int (0 : Int32)), (0, .ref (κ.1 0)), (1, .int v1), (2, .long v2)]) G dM_compare_21 (by decide) rfl ?_
      refine w_aload_n (pc := 23) (q := 1) G dM_compare_23 rfl rfl ?_
      refine w_get (pc := 24) (v := .int (m_any τ)) (fs := mfl κ τ) G 0 (by decide) rfl rfl wsM_ok 26 (by decide) wd516 rfl dM_compare_24 ?_
      refine w_if_eq (pc := 27) (tgt := 101) G dM_compare_27 (by decide) (fun c27 => ?_) (fun c27 => ?_)
      · have h := if_t c27 h
        refine w_iload (pc := 101) (q := 0) G dM_compare_101 rfl ?_
        refine w_if_eq (pc := 103) (tgt := 147) G dM_compare_103 (by decide) (fun _ => ?_) (fun c => absurd (by decide) c)
        obtain rfl := Option.some.inj h
        exact w_vret (pc := 147) G dM_compare_147 Fh
      · have h := if_f c27 h
        refine w_lload_n (pc := 30) (q := 3) G dM_compare_30 rfl rfl ?_
        refine w_aload_n (pc := 31) (q := 1) G dM_compare_31 rfl rfl ?_
        refine w_get (pc := 32) (v := .long (m_limit τ)) (fs := mfl κ τ) G 0 (by decide) rfl rfl wsM_ok 13 (by decide) wd503 rfl dM_compare_32 ?_
        refine w_lc_ne (pc := 35) (tgt := 101) G dM_compare_35 dM_compare_36 (by decide) (fun c35 => ?_) (fun c35 => ?_)
        · have h := if_t c35 h
          refine w_iconst (pc := 39) (v := (0 : Int32)) G dM_compare_39 (by decide) ?_
          refine w_istore (pc := 40) (lv' := [(5, .int (0 : Int32)), (4, .int (0 : Int32)), (0, .ref (κ.1 0)), (1, .int v1), (2, .long v2)]) G dM_compare_40 (by decide) rfl ?_
          refine w_sub (lv' := [(0, .ref (κ.1 0)), (1, .int v1), (2, .long v2), (5, .int (0 : Int32))]) [2, 3, 4, 0] rfl ?_
          obtain ⟨o42_26, eo42_26, h⟩ := bd h
          refine lM_compare_42_ok G X F τ v1 v2 F (0 : Int32) o42_26 eo42_26 ?_
          refine w_aload_n (pc := 74) (q := 0) G dM_compare_74 rfl rfl ?_
          refine w_get (pc := 75) (v := .ref (κ.1 7)) (fs := mfl κ τ) G 0 (by decide) rfl rfl wsM_ok 10 (by decide) wd500 rfl dM_compare_75 ?_
          refine w_iload_n (pc := 78) (q := 1) G dM_compare_78 rfl rfl ?_
          refine w_iload (pc := 79) (q := 3) G dM_compare_79 rfl ?_
          refine w_iadd (pc := 81) G dM_compare_81 ?_
          obtain ⟨i82, h⟩ := gd_some h
          refine w_lald (pc := 82) (n := 20) (f := (m_made τ)) G 7 (by decide) rfl i82 dM_compare_82 ?_
          refine w_aload_n (pc := 83) (q := 0) G dM_compare_83 rfl rfl ?_
          refine w_get (pc := 84) (v := .ref (κ.1 14)) (fs := mfl κ τ) G 0 (by decide) rfl rfl wsM_ok 25 (by decide) wd515 rfl dM_compare_84 ?_
          refine w_iload (pc := 87) (q := 3) G dM_compare_87 rfl ?_
          obtain ⟨i89, h⟩ := gd_some h
          refine w_lald (pc := 89) (n := 4) (f := (m_found τ)) G 14 (by decide) rfl i89 dM_compare_89 ?_
          refine w_lc_ge (pc := 90) (tgt := 98) G dM_compare_90 dM_compare_91 (by decide) (fun c90 => ?_) (fun c90 => ?_)
          · have h := if_t c90 h
            refine w_iconst (pc := 98) (v := (0 : Int32)) G dM_compare_98 (by decide) ?_
            refine w_istore (pc := 99) (lv' := [(4, .int (0 : Int32)), (0, .ref (κ.1 0)), (1, .int v1), (2, .long v2), (5, .int o42_26)]) G dM_compare_99 (by decide) rfl ?_
            refine w_iload (pc := 101) (q := 0) G dM_compare_101 rfl ?_
            refine w_if_eq (pc := 103) (tgt := 147) G dM_compare_103 (by decide) (fun _ => ?_) (fun c => absurd (by decide) c)
            obtain rfl := Option.some.inj h
            exact w_vret (pc := 147) G dM_compare_147 Fh
          · have h := if_f c90 h
            refine w_iconst (pc := 94) (v := (1 : Int32)) G dM_compare_94 (by decide) ?_
            refine w_goto (pc := 95) (tgt := 99) G dM_compare_95 (by decide) ?_
            refine w_istore (pc := 99) (lv' := [(4, .int (1 : Int32)), (0, .ref (κ.1 0)), (1, .int v1), (2, .long v2), (5, .int o42_26)]) G dM_compare_99 (by decide) rfl ?_
            refine w_iload (pc := 101) (q := 0) G dM_compare_101 rfl ?_
            refine w_if_eq (pc := 103) (tgt := 147) G dM_compare_103 (by decide) (fun c => absurd c (by decide)) (fun _ => ?_)
            refine w_aload_n (pc := 106) (q := 1) G dM_compare_106 rfl rfl ?_
            refine w_iconst (pc := 107) (v := (1 : Int32)) G dM_compare_107 (by decide) ?_
            refine w_put (pc := 108) (fs := mfl κ τ) (L1 := (LM κ (s_any τ ((1 : Int32))) X)) G 0 (by decide) rfl rfl wsM_ok tyM tyM_ok nmM 26 (by decide) wd516 rfl rfl rfl (Nat.le_of_ble_eq_true rfl) dM_compare_108 (LMf_any κ τ X _) ?_
            refine w_aload_n (pc := 111) (q := 1) G dM_compare_111 rfl rfl ?_
            refine w_lload_n (pc := 112) (q := 3) G dM_compare_112 rfl rfl ?_
            refine w_put (pc := 113) (fs := mfl κ (s_any τ ((1 : Int32)))) (L1 := (LM κ (s_any (s_limit τ (v2)) ((1 : Int32))) X)) G 0 (by decide) rfl rfl wsM_ok tyM tyM_ok nmM 13 (by decide) wd503 rfl rfl rfl (Nat.le_of_ble_eq_true rfl) dM_compare_113 (LMf_limit κ (s_any τ ((1 : Int32))) X _) ?_
            refine w_iconst (pc := 116) (v := (0 : Int32)) G dM_compare_116 (by decide) ?_
            refine w_istore (pc := 117) (lv' := [(5, .int (0 : Int32)), (4, .int (1 : Int32)), (0, .ref (κ.1 0)), (1, .int v1), (2, .long v2)]) G dM_compare_117 (by decide) rfl ?_
            refine w_sub (lv' := [(0, .ref (κ.1 0)), (1, .int v1), (5, .int (0 : Int32))]) [2, 3, 0] rfl ?_
            obtain ⟨o119_30, eo119_30, h⟩ := bd h
            refine lM_compare_119_ok G X F v1 F (0 : Int32) (s_any (s_limit τ (v2)) ((1 : Int32))) o119_30 eo119_30 ?_
            obtain rfl := Option.some.inj h
            exact w_vret (pc := 147) G dM_compare_147 Fh
        · have h := if_f c35 h
          refine w_iload (pc := 101) (q := 0) G dM_compare_101 rfl ?_
          refine w_if_eq (pc := 103) (tgt := 147) G dM_compare_103 (by decide) (fun _ => ?_) (fun c => absurd (by decide) c)
          obtain rfl := Option.some.inj h
          exact w_vret (pc := 147) G dM_compare_147 Fh
    · have h := if_f c12 h
      refine w_iconst (pc := 16) (v := (1 : Int32)) G dM_compare_16 (by decide) ?_
      refine w_goto (pc := 17) (tgt := 21) G dM_compare_17 (by decide) ?_
      refine w_istore (pc := 21) (lv' := [(4, .int (1 : Int32)), (0, .ref (κ.1 0)), (1, .int v1), (2, .long v2)]) G dM_compare_21 (by decide) rfl ?_
      refine w_aload_n (pc := 23) (q := 1) G dM_compare_23 rfl rfl ?_
      refine w_get (pc := 24) (v := .int (m_any τ)) (fs := mfl κ τ) G 0 (by decide) rfl rfl wsM_ok 26 (by decide) wd516 rfl dM_compare_24 ?_
      refine w_if_eq (pc := 27) (tgt := 101) G dM_compare_27 (by decide) (fun c27 => ?_) (fun c27 => ?_)
      · have h := if_t c27 h
        refine w_iload (pc := 101) (q := 0) G dM_compare_101 rfl ?_
        refine w_if_eq (pc := 103) (tgt := 147) G dM_compare_103 (by decide) (fun c => absurd c (by decide)) (fun _ => ?_)
        refine w_aload_n (pc := 106) (q := 1) G dM_compare_106 rfl rfl ?_
        refine w_iconst (pc := 107) (v := (1 : Int32)) G dM_compare_107 (by decide) ?_
        refine w_put (pc := 108) (fs := mfl κ τ) (L1 := (LM κ (s_any τ ((1 : Int32))) X)) G 0 (by decide) rfl rfl wsM_ok tyM tyM_ok nmM 26 (by decide) wd516 rfl rfl rfl (Nat.le_of_ble_eq_true rfl) dM_compare_108 (LMf_any κ τ X _) ?_
        refine w_aload_n (pc := 111) (q := 1) G dM_compare_111 rfl rfl ?_
        refine w_lload_n (pc := 112) (q := 3) G dM_compare_112 rfl rfl ?_
        refine w_put (pc := 113) (fs := mfl κ (s_any τ ((1 : Int32)))) (L1 := (LM κ (s_any (s_limit τ (v2)) ((1 : Int32))) X)) G 0 (by decide) rfl rfl wsM_ok tyM tyM_ok nmM 13 (by decide) wd503 rfl rfl rfl (Nat.le_of_ble_eq_true rfl) dM_compare_113 (LMf_limit κ (s_any τ ((1 : Int32))) X _) ?_
        refine w_iconst (pc := 116) (v := (0 : Int32)) G dM_compare_116 (by decide) ?_
        refine w_istore (pc := 117) (lv' := [(5, .int (0 : Int32)), (4, .int (1 : Int32)), (0, .ref (κ.1 0)), (1, .int v1), (2, .long v2)]) G dM_compare_117 (by decide) rfl ?_
        refine w_sub (lv' := [(0, .ref (κ.1 0)), (1, .int v1), (5, .int (0 : Int32))]) [2, 3, 0] rfl ?_
        obtain ⟨o119_35, eo119_35, h⟩ := bd h
        refine lM_compare_119_ok G X F v1 F (0 : Int32) (s_any (s_limit τ (v2)) ((1 : Int32))) o119_35 eo119_35 ?_
        obtain rfl := Option.some.inj h
        exact w_vret (pc := 147) G dM_compare_147 Fh
      · have h := if_f c27 h
        refine w_lload_n (pc := 30) (q := 3) G dM_compare_30 rfl rfl ?_
        refine w_aload_n (pc := 31) (q := 1) G dM_compare_31 rfl rfl ?_
        refine w_get (pc := 32) (v := .long (m_limit τ)) (fs := mfl κ τ) G 0 (by decide) rfl rfl wsM_ok 13 (by decide) wd503 rfl dM_compare_32 ?_
        refine w_lc_ne (pc := 35) (tgt := 101) G dM_compare_35 dM_compare_36 (by decide) (fun c35 => ?_) (fun c35 => ?_)
        · have h := if_t c35 h
          refine w_iconst (pc := 39) (v := (0 : Int32)) G dM_compare_39 (by decide) ?_
          refine w_istore (pc := 40) (lv' := [(5, .int (0 : Int32)), (4, .int (1 : Int32)), (0, .ref (κ.1 0)), (1, .int v1), (2, .long v2)]) G dM_compare_40 (by decide) rfl ?_
          refine w_sub (lv' := [(0, .ref (κ.1 0)), (1, .int v1), (2, .long v2), (5, .int (0 : Int32))]) [2, 3, 4, 0] rfl ?_
          obtain ⟨o42_37, eo42_37, h⟩ := bd h
          refine lM_compare_42_ok G X F τ v1 v2 F (0 : Int32) o42_37 eo42_37 ?_
          refine w_aload_n (pc := 74) (q := 0) G dM_compare_74 rfl rfl ?_
          refine w_get (pc := 75) (v := .ref (κ.1 7)) (fs := mfl κ τ) G 0 (by decide) rfl rfl wsM_ok 10 (by decide) wd500 rfl dM_compare_75 ?_
          refine w_iload_n (pc := 78) (q := 1) G dM_compare_78 rfl rfl ?_
          refine w_iload (pc := 79) (q := 3) G dM_compare_79 rfl ?_
          refine w_iadd (pc := 81) G dM_compare_81 ?_
          obtain ⟨i82, h⟩ := gd_some h
          refine w_lald (pc := 82) (n := 20) (f := (m_made τ)) G 7 (by decide) rfl i82 dM_compare_82 ?_
          refine w_aload_n (pc := 83) (q := 0) G dM_compare_83 rfl rfl ?_
          refine w_get (pc := 84) (v := .ref (κ.1 14)) (fs := mfl κ τ) G 0 (by decide) rfl rfl wsM_ok 25 (by decide) wd515 rfl dM_compare_84 ?_
          refine w_iload (pc := 87) (q := 3) G dM_compare_87 rfl ?_
          obtain ⟨i89, h⟩ := gd_some h
          refine w_lald (pc := 89) (n := 4) (f := (m_found τ)) G 14 (by decide) rfl i89 dM_compare_89 ?_
          refine w_lc_ge (pc := 90) (tgt := 98) G dM_compare_90 dM_compare_91 (by decide) (fun c90 => ?_) (fun c90 => ?_)
          · have h := if_t c90 h
            refine w_iconst (pc := 98) (v := (0 : Int32)) G dM_compare_98 (by decide) ?_
            refine w_istore (pc := 99) (lv' := [(4, .int (0 : Int32)), (0, .ref (κ.1 0)), (1, .int v1), (2, .long v2), (5, .int o42_37)]) G dM_compare_99 (by decide) rfl ?_
            refine w_iload (pc := 101) (q := 0) G dM_compare_101 rfl ?_
            refine w_if_eq (pc := 103) (tgt := 147) G dM_compare_103 (by decide) (fun _ => ?_) (fun c => absurd (by decide) c)
            obtain rfl := Option.some.inj h
            exact w_vret (pc := 147) G dM_compare_147 Fh
          · have h := if_f c90 h
            refine w_iconst (pc := 94) (v := (1 : Int32)) G dM_compare_94 (by decide) ?_
            refine w_goto (pc := 95) (tgt := 99) G dM_compare_95 (by decide) ?_
            refine w_istore (pc := 99) (lv' := [(4, .int (1 : Int32)), (0, .ref (κ.1 0)), (1, .int v1), (2, .long v2), (5, .int o42_37)]) G dM_compare_99 (by decide) rfl ?_
            refine w_iload (pc := 101) (q := 0) G dM_compare_101 rfl ?_
            refine w_if_eq (pc := 103) (tgt := 147) G dM_compare_103 (by decide) (fun c => absurd c (by decide)) (fun _ => ?_)
            refine w_aload_n (pc := 106) (q := 1) G dM_compare_106 rfl rfl ?_
            refine w_iconst (pc := 107) (v := (1 : Int32)) G dM_compare_107 (by decide) ?_
            refine w_put (pc := 108) (fs := mfl κ τ) (L1 := (LM κ (s_any τ ((1 : Int32))) X)) G 0 (by decide) rfl rfl wsM_ok tyM tyM_ok nmM 26 (by decide) wd516 rfl rfl rfl (Nat.le_of_ble_eq_true rfl) dM_compare_108 (LMf_any κ τ X _) ?_
            refine w_aload_n (pc := 111) (q := 1) G dM_compare_111 rfl rfl ?_
            refine w_lload_n (pc := 112) (q := 3) G dM_compare_112 rfl rfl ?_
            refine w_put (pc := 113) (fs := mfl κ (s_any τ ((1 : Int32)))) (L1 := (LM κ (s_any (s_limit τ (v2)) ((1 : Int32))) X)) G 0 (by decide) rfl rfl wsM_ok tyM tyM_ok nmM 13 (by decide) wd503 rfl rfl rfl (Nat.le_of_ble_eq_true rfl) dM_compare_113 (LMf_limit κ (s_any τ ((1 : Int32))) X _) ?_
            refine w_iconst (pc := 116) (v := (0 : Int32)) G dM_compare_116 (by decide) ?_
            refine w_istore (pc := 117) (lv' := [(5, .int (0 : Int32)), (4, .int (1 : Int32)), (0, .ref (κ.1 0)), (1, .int v1), (2, .long v2)]) G dM_compare_117 (by decide) rfl ?_
            refine w_sub (lv' := [(0, .ref (κ.1 0)), (1, .int v1), (5, .int (0 : Int32))]) [2, 3, 0] rfl ?_
            obtain ⟨o119_41, eo119_41, h⟩ := bd h
            refine lM_compare_119_ok G X F v1 F (0 : Int32) (s_any (s_limit τ (v2)) ((1 : Int32))) o119_41 eo119_41 ?_
            obtain rfl := Option.some.inj h
            exact w_vret (pc := 147) G dM_compare_147 Fh
        · have h := if_f c35 h
          refine w_iload (pc := 101) (q := 0) G dM_compare_101 rfl ?_
          refine w_if_eq (pc := 103) (tgt := 147) G dM_compare_103 (by decide) (fun c => absurd c (by decide)) (fun _ => ?_)
          refine w_aload_n (pc := 106) (q := 1) G dM_compare_106 rfl rfl ?_
          refine w_iconst (pc := 107) (v := (1 : Int32)) G dM_compare_107 (by decide) ?_
          refine w_put (pc := 108) (fs := mfl κ τ) (L1 := (LM κ (s_any τ ((1 : Int32))) X)) G 0 (by decide) rfl rfl wsM_ok tyM tyM_ok nmM 26 (by decide) wd516 rfl rfl rfl (Nat.le_of_ble_eq_true rfl) dM_compare_108 (LMf_any κ τ X _) ?_
          refine w_aload_n (pc := 111) (q := 1) G dM_compare_111 rfl rfl ?_
          refine w_lload_n (pc := 112) (q := 3) G dM_compare_112 rfl rfl ?_
          refine w_put (pc := 113) (fs := mfl κ (s_any τ ((1 : Int32)))) (L1 := (LM κ (s_any (s_limit τ (v2)) ((1 : Int32))) X)) G 0 (by decide) rfl rfl wsM_ok tyM tyM_ok nmM 13 (by decide) wd503 rfl rfl rfl (Nat.le_of_ble_eq_true rfl) dM_compare_113 (LMf_limit κ (s_any τ ((1 : Int32))) X _) ?_
          refine w_iconst (pc := 116) (v := (0 : Int32)) G dM_compare_116 (by decide) ?_
          refine w_istore (pc := 117) (lv' := [(5, .int (0 : Int32)), (4, .int (1 : Int32)), (0, .ref (κ.1 0)), (1, .int v1), (2, .long v2)]) G dM_compare_117 (by decide) rfl ?_
          refine w_sub (lv' := [(0, .ref (κ.1 0)), (1, .int v1), (5, .int (0 : Int32))]) [2, 3, 0] rfl ?_
          obtain ⟨o119_43, eo119_43, h⟩ := bd h
          refine lM_compare_119_ok G X F v1 F (0 : Int32) (s_any (s_limit τ (v2)) ((1 : Int32))) o119_43 eo119_43 ?_
          obtain rfl := Option.some.inj h
          exact w_vret (pc := 147) G dM_compare_147 Fh
def rm_M_visit : Room := { frames := 3, cells := 0, slots := 0, locals := 80 }
theorem dM_visit_0 : decode cM_visit 0 = .ok (.aload_n 0, 1) := by decide +kernel
theorem dM_visit_1 : decode cM_visit 1 = .ok (.getfield 146, 3) := by decide +kernel
theorem dM_visit_4 : decode cM_visit 4 = .ok (.tableswitch 58 0 2 #[28, 41, 50], 28) := by decide +kernel
theorem dM_visit_32 : decode cM_visit 32 = .ok (.aload_n 0, 1) := by decide +kernel
theorem dM_visit_33 : decode cM_visit 33 = .ok (.dup, 1) := by decide +kernel
theorem dM_visit_34 : decode cM_visit 34 = .ok (.getfield 169, 3) := by decide +kernel
theorem dM_visit_37 : decode cM_visit 37 = .ok (.iconst 1, 1) := by decide +kernel
theorem dM_visit_38 : decode cM_visit 38 = .ok (.iadd, 1) := by decide +kernel
theorem dM_visit_39 : decode cM_visit 39 = .ok (.putfield 169, 3) := by decide +kernel
theorem dM_visit_42 : decode cM_visit 42 = .ok (.goto 26, 3) := by decide +kernel
theorem dM_visit_45 : decode cM_visit 45 = .ok (.aload_n 0, 1) := by decide +kernel
theorem dM_visit_46 : decode cM_visit 46 = .ok (.iload_n 1, 1) := by decide +kernel
theorem dM_visit_47 : decode cM_visit 47 = .ok (.lload_n 2, 1) := by decide +kernel
theorem dM_visit_48 : decode cM_visit 48 = .ok (.invokevirtual 172, 3) := by decide +kernel
theorem dM_visit_51 : decode cM_visit 51 = .ok (.goto 17, 3) := by decide +kernel
theorem dM_visit_54 : decode cM_visit 54 = .ok (.aload_n 0, 1) := by decide +kernel
theorem dM_visit_55 : decode cM_visit 55 = .ok (.iload_n 1, 1) := by decide +kernel
theorem dM_visit_56 : decode cM_visit 56 = .ok (.invokevirtual 175, 3) := by decide +kernel
theorem dM_visit_59 : decode cM_visit 59 = .ok (.goto 9, 3) := by decide +kernel
theorem dM_visit_62 : decode cM_visit 62 = .ok (.aload_n 0, 1) := by decide +kernel
theorem dM_visit_63 : decode cM_visit 63 = .ok (.iload_n 1, 1) := by decide +kernel
theorem dM_visit_64 : decode cM_visit 64 = .ok (.lload_n 2, 1) := by decide +kernel
theorem dM_visit_65 : decode cM_visit 65 = .ok (.invokevirtual 178, 3) := by decide +kernel
theorem dM_visit_68 : decode cM_visit 68 = .ok (.return_, 1) := by decide +kernel
theorem cb_M_compare_M_visit : CB yM_compare cM_compare 6 none rm_M_compare rm_M_visit 2 := ⟨wd705, wd8, by decide +kernel, rfl, rfl, by decide⟩
theorem cb_M_extend_M_visit : CB yM_extend cM_extend 9 none rm_M_extend rm_M_visit 1 := ⟨wd693, wd8, by decide +kernel, rfl, rfl, by decide⟩
theorem cb_M_sortIn_M_visit : CB yM_sortIn cM_sortIn 6 none rm_M_sortIn rm_M_visit 2 := ⟨wd685, wd8, by decide +kernel, rfl, rfl, by decide⟩
noncomputable def M_visit (F : Nat) (τ : MS) (v1 : Int32) (v2 : Int64) : Option (MS) := if (m_mode τ) = (0 : Int32) then some (s_counted τ (((m_counted τ) + (1 : Int32)))) else if (m_mode τ) = (1 : Int32) then (M_sortIn F τ v1 v2).bind (fun r48 => some r48) else if (m_mode τ) = (2 : Int32) then (M_extend F τ v1).bind (fun r56 => some r56) else (M_compare F τ v1 v2).bind (fun r65 => some r65)
set_option maxHeartbeats 4000000 in
set_option maxRecDepth 100000 in
theorem met_M_visit (κ : ctx) (X : Nat → va_E) (F : Nat) (τ : MS) (v1 : Int32) (v2 : Int64) {out : MS} (h : M_visit F τ v1 v2 = some out) : Mt yM_visit cM_visit 4 none rm_M_visit κ [.ref (κ.1 0), .int v1, .long v2] (LM κ τ X) none (LM κ out X) := by
  refine Mt.of (by decide) (Nat.le_of_ble_eq_true rfl) ?_
  intro g G Fh
  unfold M_visit at h
  show J g κ 4 0 [(0, .ref (κ.1 0)), (1, .int v1), (2, .long v2)] [] (LM κ τ X)
  refine w_aload_n (pc := 0) (q := 0) G dM_visit_0 rfl rfl ?_
  refine w_get (pc := 1) (v := .int (m_mode τ)) (fs := mfl κ τ) G 0 (by decide) rfl rfl wsM_ok 14 (by decide) wd504 rfl dM_visit_1 ?_
  by_cases c4_0 : (m_mode τ) = (0 : Int32)
  · have h := if_t c4_0 h
    refine w_tsIn (pc := 4) (tgt := 32) G dM_visit_4 (by rw [c4_0]; decide) (by rw [c4_0]; decide) (by rw [c4_0]; rfl) (by decide) ?_
    refine w_aload_n (pc := 32) (q := 0) G dM_visit_32 rfl rfl ?_
    refine w_dup (pc := 33) G dM_visit_33 rfl ?_
    refine w_get (pc := 34) (v := .int (m_counted τ)) (fs := mfl κ τ) G 0 (by decide) rfl rfl wsM_ok 15 (by decide) wd505 rfl dM_visit_34 ?_
    refine w_iconst (pc := 37) (v := (1 : Int32)) G dM_visit_37 (by decide) ?_
    refine w_iadd (pc := 38) G dM_visit_38 ?_
    refine w_put (pc := 39) (fs := mfl κ τ) (L1 := (LM κ (s_counted τ (((m_counted τ) + (1 : Int32)))) X)) G 0 (by decide) rfl rfl wsM_ok tyM tyM_ok nmM 15 (by decide) wd505 rfl rfl rfl (Nat.le_of_ble_eq_true rfl) dM_visit_39 (LMf_counted κ τ X _) ?_
    refine w_goto (pc := 42) (tgt := 68) G dM_visit_42 (by decide) ?_
    obtain rfl := Option.some.inj h
    exact w_vret (pc := 68) G dM_visit_68 Fh
  have h := if_f c4_0 h
  by_cases c4_1 : (m_mode τ) = (1 : Int32)
  · have h := if_t c4_1 h
    refine w_tsIn (pc := 4) (tgt := 45) G dM_visit_4 (by rw [c4_1]; decide) (by rw [c4_1]; decide) (by rw [c4_1]; rfl) (by decide) ?_
    refine w_aload_n (pc := 45) (q := 0) G dM_visit_45 rfl rfl ?_
    refine w_iload_n (pc := 46) (q := 1) G dM_visit_46 rfl rfl ?_
    refine w_lload_n (pc := 47) (q := 2) G dM_visit_47 rfl rfl ?_
    obtain ⟨r48, e48, h⟩ := bd h
    refine w_callV (pc := 48) (av := [.int v1, .long v2]) (rest := []) (v := none) (L' := (LM κ r48 X)) (T := TM) (fs := mfl κ τ) G 0 0 27 (by decide) rfl rfl cb_M_sortIn_M_visit wd684 ws35 wd682 (met_M_sortIn κ X F τ v1 v2 e48) rfl rfl rfl (Nat.le_of_ble_eq_true rfl) dM_visit_48 ?_
    refine w_goto (pc := 51) (tgt := 68) G dM_visit_51 (by decide) ?_
    obtain rfl := Option.some.inj h
    exact w_vret (pc := 68) G dM_visit_68 Fh
  have h := if_f c4_1 h
  by_cases c4_2 : (m_mode τ) = (2 : Int32)
  · have h := if_t c4_2 h
    refine w_tsIn (pc := 4) (tgt := 54) G dM_visit_4 (by rw [c4_2]; decide) (by rw [c4_2]; decide) (by rw [c4_2]; rfl) (by decide) ?_
    refine w_aload_n (pc := 54) (q := 0) G dM_visit_54 rfl rfl ?_
    refine w_iload_n (pc := 55) (q := 1) G dM_visit_55 rfl rfl ?_
    obtain ⟨r56, e56, h⟩ := bd h
    refine w_callV (pc := 56) (av := [.int v1]) (rest := []) (v := none) (L' := (LM κ r56 X)) (T := TM) (fs := mfl κ τ) G 0 0 27 (by decide) rfl rfl cb_M_extend_M_visit wd692 ws37 wd690 (met_M_extend κ X F τ v1 e56) rfl rfl rfl (Nat.le_of_ble_eq_true rfl) dM_visit_56 ?_
    refine w_goto (pc := 59) (tgt := 68) G dM_visit_59 (by decide) ?_
    obtain rfl := Option.some.inj h
    exact w_vret (pc := 68) G dM_visit_68 Fh
  have h := if_f c4_2 h
  refine w_tsOut (pc := 4) (tgt := 62) G dM_visit_4 (tsout _ 2 (by decide) (fun k hk => match k, hk with | 0, _ => c4_0 | 1, _ => c4_1 | 2, _ => c4_2 | k + 3, q => absurd q (by omega))) (by decide) ?_
  refine w_aload_n (pc := 62) (q := 0) G dM_visit_62 rfl rfl ?_
  refine w_iload_n (pc := 63) (q := 1) G dM_visit_63 rfl rfl ?_
  refine w_lload_n (pc := 64) (q := 2) G dM_visit_64 rfl rfl ?_
  obtain ⟨r65, e65, h⟩ := bd h
  refine w_callV (pc := 65) (av := [.int v1, .long v2]) (rest := []) (v := none) (L' := (LM κ r65 X)) (T := TM) (fs := mfl κ τ) G 0 0 27 (by decide) rfl rfl cb_M_compare_M_visit wd704 ws40 wd702 (met_M_compare κ X F τ v1 v2 e65) rfl rfl rfl (Nat.le_of_ble_eq_true rfl) dM_visit_65 ?_
  obtain rfl := Option.some.inj h
  exact w_vret (pc := 68) G dM_visit_68 Fh
def rm_M_take : Room := { frames := 1, cells := 0, slots := 0, locals := 21 }
theorem dM_take_0 : decode cM_take 0 = .ok (.aload_n 0, 1) := by decide +kernel
theorem dM_take_1 : decode cM_take 1 = .ok (.getfield 32, 3) := by decide +kernel
theorem dM_take_4 : decode cM_take 4 = .ok (.iload_n 1, 1) := by decide +kernel
theorem dM_take_5 : decode cM_take 5 = .ok (.laload, 1) := by decide +kernel
theorem dM_take_6 : decode cM_take 6 = .ok (.lstore_n 2, 1) := by decide +kernel
theorem dM_take_7 : decode cM_take 7 = .ok (.iconst 0, 1) := by decide +kernel
theorem dM_take_8 : decode cM_take 8 = .ok (.istore 4, 2) := by decide +kernel
theorem dM_take_10 : decode cM_take 10 = .ok (.iload 4, 2) := by decide +kernel
theorem dM_take_12 : decode cM_take 12 = .ok (.iconst 4, 1) := by decide +kernel
theorem dM_take_13 : decode cM_take 13 = .ok (.if_icmp .ge 110, 3) := by decide +kernel
theorem dM_take_16 : decode cM_take 16 = .ok (.aload_n 0, 1) := by decide +kernel
theorem dM_take_17 : decode cM_take 17 = .ok (.getfield 29, 3) := by decide +kernel
theorem dM_take_20 : decode cM_take 20 = .ok (.iconst 4, 1) := by decide +kernel
theorem dM_take_21 : decode cM_take 21 = .ok (.iload_n 1, 1) := by decide +kernel
theorem dM_take_22 : decode cM_take 22 = .ok (.imul, 1) := by decide +kernel
theorem dM_take_23 : decode cM_take 23 = .ok (.iconst 4, 1) := by decide +kernel
theorem dM_take_24 : decode cM_take 24 = .ok (.iadd, 1) := by decide +kernel
theorem dM_take_25 : decode cM_take 25 = .ok (.iload 4, 2) := by decide +kernel
theorem dM_take_27 : decode cM_take 27 = .ok (.iadd, 1) := by decide +kernel
theorem dM_take_28 : decode cM_take 28 = .ok (.aload_n 0, 1) := by decide +kernel
theorem dM_take_29 : decode cM_take 29 = .ok (.getfield 29, 3) := by decide +kernel
theorem dM_take_32 : decode cM_take 32 = .ok (.iconst 4, 1) := by decide +kernel
theorem dM_take_33 : decode cM_take 33 = .ok (.iload_n 1, 1) := by decide +kernel
theorem dM_take_34 : decode cM_take 34 = .ok (.imul, 1) := by decide +kernel
theorem dM_take_35 : decode cM_take 35 = .ok (.iload 4, 2) := by decide +kernel
theorem dM_take_37 : decode cM_take 37 = .ok (.iadd, 1) := by decide +kernel
theorem dM_take_38 : decode cM_take 38 = .ok (.laload, 1) := by decide +kernel
theorem dM_take_39 : decode cM_take 39 = .ok (.aload_n 0, 1) := by decide +kernel
theorem dM_take_40 : decode cM_take 40 = .ok (.getfield 23, 3) := by decide +kernel
theorem dM_take_43 : decode cM_take 43 = .ok (.iload_n 1, 1) := by decide +kernel
theorem dM_take_44 : decode cM_take 44 = .ok (.laload, 1) := by decide +kernel
theorem dM_take_45 : decode cM_take 45 = .ok (.aload_n 0, 1) := by decide +kernel
theorem dM_take_46 : decode cM_take 46 = .ok (.getfield 13, 3) := by decide +kernel
theorem dM_take_49 : decode cM_take 49 = .ok (.iconst 4, 1) := by decide +kernel
theorem dM_take_50 : decode cM_take 50 = .ok (.iload_n 1, 1) := by decide +kernel
theorem dM_take_51 : decode cM_take 51 = .ok (.imul, 1) := by decide +kernel
theorem dM_take_52 : decode cM_take 52 = .ok (.iload 4, 2) := by decide +kernel
theorem dM_take_54 : decode cM_take 54 = .ok (.iadd, 1) := by decide +kernel
theorem dM_take_55 : decode cM_take 55 = .ok (.laload, 1) := by decide +kernel
theorem dM_take_56 : decode cM_take 56 = .ok (.lmul, 1) := by decide +kernel
theorem dM_take_57 : decode cM_take 57 = .ok (.ladd, 1) := by decide +kernel
theorem dM_take_58 : decode cM_take 58 = .ok (.lastore, 1) := by decide +kernel
theorem dM_take_59 : decode cM_take 59 = .ok (.aload_n 0, 1) := by decide +kernel
theorem dM_take_60 : decode cM_take 60 = .ok (.getfield 29, 3) := by decide +kernel
theorem dM_take_63 : decode cM_take 63 = .ok (.iconst 4, 1) := by decide +kernel
theorem dM_take_64 : decode cM_take 64 = .ok (.iload_n 1, 1) := by decide +kernel
theorem dM_take_65 : decode cM_take 65 = .ok (.imul, 1) := by decide +kernel
theorem dM_take_66 : decode cM_take 66 = .ok (.iconst 4, 1) := by decide +kernel
theorem dM_take_67 : decode cM_take 67 = .ok (.iadd, 1) := by decide +kernel
theorem dM_take_68 : decode cM_take 68 = .ok (.iload 4, 2) := by decide +kernel
theorem dM_take_70 : decode cM_take 70 = .ok (.iadd, 1) := by decide +kernel
theorem dM_take_71 : decode cM_take 71 = .ok (.laload, 1) := by decide +kernel
theorem dM_take_72 : decode cM_take 72 = .ok (.aload_n 0, 1) := by decide +kernel
theorem dM_take_73 : decode cM_take 73 = .ok (.getfield 35, 3) := by decide +kernel
theorem dM_take_76 : decode cM_take 76 = .ok (.iload 4, 2) := by decide +kernel
theorem dM_take_78 : decode cM_take 78 = .ok (.laload, 1) := by decide +kernel
theorem dM_take_79 : decode cM_take 79 = .ok (.lsub, 1) := by decide +kernel
theorem dM_take_80 : decode cM_take 80 = .ok (.lstore 5, 2) := by decide +kernel
theorem dM_take_82 : decode cM_take 82 = .ok (.iload 4, 2) := by decide +kernel
theorem dM_take_84 : decode cM_take 84 = .ok (.aload_n 0, 1) := by decide +kernel
theorem dM_take_85 : decode cM_take 85 = .ok (.getfield 17, 3) := by decide +kernel
theorem dM_take_88 : decode cM_take 88 = .ok (.iload_n 1, 1) := by decide +kernel
theorem dM_take_89 : decode cM_take 89 = .ok (.iaload, 1) := by decide +kernel
theorem dM_take_90 : decode cM_take 90 = .ok (.if_icmp .lt 25, 3) := by decide +kernel
theorem dM_take_93 : decode cM_take 93 = .ok (.iload 4, 2) := by decide +kernel
theorem dM_take_95 : decode cM_take 95 = .ok (.aload_n 0, 1) := by decide +kernel
theorem dM_take_96 : decode cM_take 96 = .ok (.iload_n 1, 1) := by decide +kernel
theorem dM_take_97 : decode cM_take 97 = .ok (.iconst 1, 1) := by decide +kernel
theorem dM_take_98 : decode cM_take 98 = .ok (.iadd, 1) := by decide +kernel
theorem dM_take_99 : decode cM_take 99 = .ok (.invokevirtual 140, 3) := by decide +kernel
theorem dM_take_102 : decode cM_take 102 = .ok (.if_icmp .ge 13, 3) := by decide +kernel
theorem dM_take_105 : decode cM_take 105 = .ok (.lload_n 2, 1) := by decide +kernel
theorem dM_take_106 : decode cM_take 106 = .ok (.lload 5, 2) := by decide +kernel
theorem dM_take_108 : decode cM_take 108 = .ok (.lload 5, 2) := by decide +kernel
theorem dM_take_110 : decode cM_take 110 = .ok (.lmul, 1) := by decide +kernel
theorem dM_take_111 : decode cM_take 111 = .ok (.ladd, 1) := by decide +kernel
theorem dM_take_112 : decode cM_take 112 = .ok (.goto 4, 3) := by decide +kernel
theorem dM_take_115 : decode cM_take 115 = .ok (.lload_n 2, 1) := by decide +kernel
theorem dM_take_116 : decode cM_take 116 = .ok (.lstore_n 2, 1) := by decide +kernel
theorem dM_take_117 : decode cM_take 117 = .ok (.iinc 4 1, 3) := by decide +kernel
theorem dM_take_120 : decode cM_take 120 = .ok (.goto (-110), 3) := by decide +kernel
theorem dM_take_123 : decode cM_take 123 = .ok (.aload_n 0, 1) := by decide +kernel
theorem dM_take_124 : decode cM_take 124 = .ok (.getfield 32, 3) := by decide +kernel
theorem dM_take_127 : decode cM_take 127 = .ok (.iload_n 1, 1) := by decide +kernel
theorem dM_take_128 : decode cM_take 128 = .ok (.iconst 1, 1) := by decide +kernel
theorem dM_take_129 : decode cM_take 129 = .ok (.iadd, 1) := by decide +kernel
theorem dM_take_130 : decode cM_take 130 = .ok (.lload_n 2, 1) := by decide +kernel
theorem dM_take_131 : decode cM_take 131 = .ok (.lastore, 1) := by decide +kernel
theorem dM_take_132 : decode cM_take 132 = .ok (.return_, 1) := by decide +kernel
theorem cb_M_open_M_take : CB yM_open cM_open 2 (some .int) rm_M_open rm_M_take 1 := ⟨wd677, wd8, by decide +kernel, rfl, rfl, by decide⟩
noncomputable def lM_take_10 (F : Nat) (v1 : Int32) : Nat → Int64 → Int32 → MS → Option (Int64 × MS)
  | 0, _, _, _ => none
  | n + 1, v2, v4, τ => if (4 : Int32) ≤ v4 then some (v2, τ) else gd (vp_in (((4 : Int32) * v1) + v4) 20) (gd (vp_in v1 4) (gd (vp_in (((4 : Int32) * v1) + v4) 16) (gd (vp_in ((((4 : Int32) * v1) + (4 : Int32)) + v4) 20) (gd (vp_in ((((4 : Int32) * v1) + (4 : Int32)) + v4) 20) (gd (vp_in v4 4) (gd (vp_in v1 5) (if v4 < ((m_pivot τ) v1.toNatClampNeg) then lM_take_10 F v1 n v2 (v4 + 1) (s_made τ (vp_updL (m_made τ) ((((4 : Int32) * v1) + (4 : Int32)) + v4).toNatClampNeg (((m_made τ) (((4 : Int32) * v1) + v4).toNatClampNeg) + (((m_multiple τ) v1.toNatClampNeg) * ((m_row τ) (((4 : Int32) * v1) + v4).toNatClampNeg))))) else (M_open F (s_made τ (vp_updL (m_made τ) ((((4 : Int32) * v1) + (4 : Int32)) + v4).toNatClampNeg (((m_made τ) (((4 : Int32) * v1) + v4).toNatClampNeg) + (((m_multiple τ) v1.toNatClampNeg) * ((m_row τ) (((4 : Int32) * v1) + v4).toNatClampNeg))))) (v1 + (1 : Int32))).bind (fun r99 => if r99 ≤ v4 then lM_take_10 F v1 n v2 (v4 + 1) (s_made τ (vp_updL (m_made τ) ((((4 : Int32) * v1) + (4 : Int32)) + v4).toNatClampNeg (((m_made τ) (((4 : Int32) * v1) + v4).toNatClampNeg) + (((m_multiple τ) v1.toNatClampNeg) * ((m_row τ) (((4 : Int32) * v1) + v4).toNatClampNeg))))) else lM_take_10 F v1 n (v2 + ((((vp_updL (m_made τ) ((((4 : Int32) * v1) + (4 : Int32)) + v4).toNatClampNeg (((m_made τ) (((4 : Int32) * v1) + v4).toNatClampNeg) + (((m_multiple τ) v1.toNatClampNeg) * ((m_row τ) (((4 : Int32) * v1) + v4).toNatClampNeg)))) ((((4 : Int32) * v1) + (4 : Int32)) + v4).toNatClampNeg) - ((m_point τ) v4.toNatClampNeg)) * (((vp_updL (m_made τ) ((((4 : Int32) * v1) + (4 : Int32)) + v4).toNatClampNeg (((m_made τ) (((4 : Int32) * v1) + v4).toNatClampNeg) + (((m_multiple τ) v1.toNatClampNeg) * ((m_row τ) (((4 : Int32) * v1) + v4).toNatClampNeg)))) ((((4 : Int32) * v1) + (4 : Int32)) + v4).toNatClampNeg) - ((m_point τ) v4.toNatClampNeg)))) (v4 + 1) (s_made τ (vp_updL (m_made τ) ((((4 : Int32) * v1) + (4 : Int32)) + v4).toNatClampNeg (((m_made τ) (((4 : Int32) * v1) + v4).toNatClampNeg) + (((m_multiple τ) v1.toNatClampNeg) * ((m_row τ) (((4 : Int32) * v1) + v4).toNatClampNeg)))))))))))))
set_option maxHeartbeats 4000000 in
set_option maxRecDepth 100000 in
theorem lM_take_10_ok {g : Gm} {κ : ctx} (G : OK g κ RM cM_take 7 none rm_M_take) (X : Nat → va_E) (F : Nat) (v1 : Int32) : ∀ (n : Nat) (v2 : Int64) (v4 : Int32) (τ : MS) (out : Int64 × MS), lM_take_10 F v1 n v2 v4 τ = some out → (J g κ 7 123 [(0, .ref (κ.1 0)), (1, .int v1), (2, .long out.1)] [] (LM κ out.2 X)) → J g κ 7 10 [(0, .ref (κ.1 0)), (1, .int v1), (2, .long v2), (4, .int v4)] [] (LM κ τ X) := by
  intro n
  induction n with
  | zero =>
    intro v2 v4 τ
    intro out h
    rw [lM_take_10] at h
    cases h
  | succ n ih =>
    intro v2 v4 τ out h K
    rw [lM_take_10] at h
    refine w_iload (pc := 10) (q := 3) G dM_take_10 rfl ?_
    refine w_iconst (pc := 12) (v := (4 : Int32)) G dM_take_12 (by decide) ?_
    refine w_icmp_ge (pc := 13) (tgt := 123) G dM_take_13 (by decide) (fun c13 => ?_) (fun c13 => ?_)
    · have h := if_t c13 h
      obtain rfl := Option.some.inj h
      refine w_sub (lv' := [(0, .ref (κ.1 0)), (1, .int v1), (2, .long v2)]) [0, 1, 2] rfl ?_
      exact K
    · have h := if_f c13 h
      refine w_aload_n (pc := 16) (q := 0) G dM_take_16 rfl rfl ?_
      refine w_get (pc := 17) (v := .ref (κ.1 7)) (fs := mfl κ τ) G 0 (by decide) rfl rfl wsM_ok 10 (by decide) wd500 rfl dM_take_17 ?_
      refine w_iconst (pc := 20) (v := (4 : Int32)) G dM_take_20 (by decide) ?_
      refine w_iload_n (pc := 21) (q := 1) G dM_take_21 rfl rfl ?_
      refine w_imul (pc := 22) G dM_take_22 ?_
      refine w_iconst (pc := 23) (v := (4 : Int32)) G dM_take_23 (by decide) ?_
      refine w_iadd (pc := 24) G dM_take_24 ?_
      refine w_iload (pc := 25) (q := 3) G dM_take_25 rfl ?_
      refine w_iadd (pc := 27) G dM_take_27 ?_
      refine w_aload_n (pc := 28) (q := 0) G dM_take_28 rfl rfl ?_
      refine w_get (pc := 29) (v := .ref (κ.1 7)) (fs := mfl κ τ) G 0 (by decide) rfl rfl wsM_ok 10 (by decide) wd500 rfl dM_take_29 ?_
      refine w_iconst (pc := 32) (v := (4 : Int32)) G dM_take_32 (by decide) ?_
      refine w_iload_n (pc := 33) (q := 1) G dM_take_33 rfl rfl ?_
      refine w_imul (pc := 34) G dM_take_34 ?_
      refine w_iload (pc := 35) (q := 3) G dM_take_35 rfl ?_
      refine w_iadd (pc := 37) G dM_take_37 ?_
      obtain ⟨i38, h⟩ := gd_some h
      refine w_lald (pc := 38) (n := 20) (f := (m_made τ)) G 7 (by decide) rfl i38 dM_take_38 ?_
      refine w_aload_n (pc := 39) (q := 0) G dM_take_39 rfl rfl ?_
      refine w_get (pc := 40) (v := .ref (κ.1 5)) (fs := mfl κ τ) G 0 (by decide) rfl rfl wsM_ok 8 (by decide) wd498 rfl dM_take_40 ?_
      refine w_iload_n (pc := 43) (q := 1) G dM_take_43 rfl rfl ?_
      obtain ⟨i44, h⟩ := gd_some h
      refine w_lald (pc := 44) (n := 4) (f := (m_multiple τ)) G 5 (by decide) rfl i44 dM_take_44 ?_
      refine w_aload_n (pc := 45) (q := 0) G dM_take_45 rfl rfl ?_
      refine w_get (pc := 46) (v := .ref (κ.1 2)) (fs := mfl κ τ) G 0 (by decide) rfl rfl wsM_ok 5 (by decide) wd495 rfl dM_take_46 ?_
      refine w_iconst (pc := 49) (v := (4 : Int32)) G dM_take_49 (by decide) ?_
      refine w_iload_n (pc := 50) (q := 1) G dM_take_50 rfl rfl ?_
      refine w_imul (pc := 51) G dM_take_51 ?_
      refine w_iload (pc := 52) (q := 3) G dM_take_52 rfl ?_
      refine w_iadd (pc := 54) G dM_take_54 ?_
      obtain ⟨i55, h⟩ := gd_some h
      refine w_lald (pc := 55) (n := 16) (f := (m_row τ)) G 2 (by decide) rfl i55 dM_take_55 ?_
      refine w_lmul (pc := 56) G dM_take_56 ?_
      refine w_ladd (pc := 57) G dM_take_57 ?_
      obtain ⟨i58, h⟩ := gd_some h
      refine w_last (pc := 58) (n := 20) (f := (m_made τ)) (L1 := (LM κ (s_made τ (vp_updL (m_made τ) ((((4 : Int32) * v1) + (4 : Int32)) + v4).toNatClampNeg (((m_made τ) (((4 : Int32) * v1) + v4).toNatClampNeg) + (((m_multiple τ) v1.toNatClampNeg) * ((m_row τ) (((4 : Int32) * v1) + v4).toNatClampNeg))))) X)) G 7 (by decide) rfl i58 dM_take_58 (LM_made κ τ X _) ?_
      refine w_aload_n (pc := 59) (q := 0) G dM_take_59 rfl rfl ?_
      refine w_get (pc := 60) (v := .ref (κ.1 7)) (fs := mfl κ (s_made τ (vp_updL (m_made τ) ((((4 : Int32) * v1) + (4 : Int32)) + v4).toNatClampNeg (((m_made τ) (((4 : Int32) * v1) + v4).toNatClampNeg) + (((m_multiple τ) v1.toNatClampNeg) * ((m_row τ) (((4 : Int32) * v1) + v4).toNatClampNeg)))))) G 0 (by decide) rfl rfl wsM_ok 10 (by decide) wd500 rfl dM_take_60 ?_
      refine w_iconst (pc := 63) (v := (4 : Int32)) G dM_take_63 (by decide) ?_
      refine w_iload_n (pc := 64) (q := 1) G dM_take_64 rfl rfl ?_
      refine w_imul (pc := 65) G dM_take_65 ?_
      refine w_iconst (pc := 66) (v := (4 : Int32)) G dM_take_66 (by decide) ?_
      refine w_iadd (pc := 67) G dM_take_67 ?_
      refine w_iload (pc := 68) (q := 3) G dM_take_68 rfl ?_
      refine w_iadd (pc := 70) G dM_take_70 ?_
      obtain ⟨i71, h⟩ := gd_some h
      refine w_lald (pc := 71) (n := 20) (f := vp_updL (m_made τ) ((((4 : Int32) * v1) + (4 : Int32)) + v4).toNatClampNeg (((m_made τ) (((4 : Int32) * v1) + v4).toNatClampNeg) + (((m_multiple τ) v1.toNatClampNeg) * ((m_row τ) (((4 : Int32) * v1) + v4).toNatClampNeg)))) G 7 (by decide) rfl i71 dM_take_71 ?_
      refine w_aload_n (pc := 72) (q := 0) G dM_take_72 rfl rfl ?_
      refine w_get (pc := 73) (v := .ref (κ.1 9)) (fs := mfl κ (s_made τ (vp_updL (m_made τ) ((((4 : Int32) * v1) + (4 : Int32)) + v4).toNatClampNeg (((m_made τ) (((4 : Int32) * v1) + v4).toNatClampNeg) + (((m_multiple τ) v1.toNatClampNeg) * ((m_row τ) (((4 : Int32) * v1) + v4).toNatClampNeg)))))) G 0 (by decide) rfl rfl wsM_ok 12 (by decide) wd502 rfl dM_take_73 ?_
      refine w_iload (pc := 76) (q := 3) G dM_take_76 rfl ?_
      obtain ⟨i78, h⟩ := gd_some h
      refine w_lald (pc := 78) (n := 4) (f := (m_point τ)) G 9 (by decide) rfl i78 dM_take_78 ?_
      refine w_lsub (pc := 79) G dM_take_79 ?_
      refine w_lstore (pc := 80) (lv' := [(5, .long (((vp_updL (m_made τ) ((((4 : Int32) * v1) + (4 : Int32)) + v4).toNatClampNeg (((m_made τ) (((4 : Int32) * v1) + v4).toNatClampNeg) + (((m_multiple τ) v1.toNatClampNeg) * ((m_row τ) (((4 : Int32) * v1) + v4).toNatClampNeg)))) ((((4 : Int32) * v1) + (4 : Int32)) + v4).toNatClampNeg) - ((m_point τ) v4.toNatClampNeg))), (0, .ref (κ.1 0)), (1, .int v1), (2, .long v2), (4, .int v4)]) G dM_take_80 (by decide) rfl ?_
      refine w_iload (pc := 82) (q := 4) G dM_take_82 rfl ?_
      refine w_aload_n (pc := 84) (q := 1) G dM_take_84 rfl rfl ?_
      refine w_get (pc := 85) (v := .ref (κ.1 3)) (fs := mfl κ (s_made τ (vp_updL (m_made τ) ((((4 : Int32) * v1) + (4 : Int32)) + v4).toNatClampNeg (((m_made τ) (((4 : Int32) * v1) + v4).toNatClampNeg) + (((m_multiple τ) v1.toNatClampNeg) * ((m_row τ) (((4 : Int32) * v1) + v4).toNatClampNeg)))))) G 0 (by decide) rfl rfl wsM_ok 6 (by decide) wd496 rfl dM_take_85 ?_
      refine w_iload_n (pc := 88) (q := 2) G dM_take_88 rfl rfl ?_
      obtain ⟨i89, h⟩ := gd_some h
      refine w_iald (pc := 89) (n := 5) (f := (m_pivot τ)) G 3 (by decide) rfl i89 dM_take_89 ?_
      refine w_icmp_lt (pc := 90) (tgt := 115) G dM_take_90 (by decide) (fun c90 => ?_) (fun c90 => ?_)
      · have h := if_t c90 h
        refine w_lload_n (pc := 115) (q := 3) G dM_take_115 rfl rfl ?_
        refine w_lstore_n (pc := 116) (lv' := [(2, .long v2), (5, .long (((vp_updL (m_made τ) ((((4 : Int32) * v1) + (4 : Int32)) + v4).toNatClampNeg (((m_made τ) (((4 : Int32) * v1) + v4).toNatClampNeg) + (((m_multiple τ) v1.toNatClampNeg) * ((m_row τ) (((4 : Int32) * v1) + v4).toNatClampNeg)))) ((((4 : Int32) * v1) + (4 : Int32)) + v4).toNatClampNeg) - ((m_point τ) v4.toNatClampNeg))), (0, .ref (κ.1 0)), (1, .int v1), (4, .int v4)]) G dM_take_116 rfl (by decide) rfl ?_
        refine w_iinc (pc := 117) (q0 := 4) (v := (v4 + 1)) (lv' := [(4, .int (v4 + 1)), (2, .long v2), (5, .long (((vp_updL (m_made τ) ((((4 : Int32) * v1) + (4 : Int32)) + v4).toNatClampNeg (((m_made τ) (((4 : Int32) * v1) + v4).toNatClampNeg) + (((m_multiple τ) v1.toNatClampNeg) * ((m_row τ) (((4 : Int32) * v1) + v4).toNatClampNeg)))) ((((4 : Int32) * v1) + (4 : Int32)) + v4).toNatClampNeg) - ((m_point τ) v4.toNatClampNeg))), (0, .ref (κ.1 0)), (1, .int v1)]) G dM_take_117 rfl rfl (by decide) rfl ?_
        refine w_goto (pc := 120) (tgt := 10) G dM_take_120 (by decide) ?_
        refine w_sub (lv' := [(0, .ref (κ.1 0)), (1, .int v1), (2, .long v2), (4, .int (v4 + 1))]) [3, 4, 1, 0] rfl ?_
        exact ih v2 (v4 + 1) (s_made τ (vp_updL (m_made τ) ((((4 : Int32) * v1) + (4 : Int32)) + v4).toNatClampNeg (((m_made τ) (((4 : Int32) * v1) + v4).toNatClampNeg) + (((m_multiple τ) v1.toNatClampNeg) * ((m_row τ) (((4 : Int32) * v1) + v4).toNatClampNeg))))) out h K
      · have h := if_f c90 h
        refine w_iload (pc := 93) (q := 4) G dM_take_93 rfl ?_
        refine w_aload_n (pc := 95) (q := 1) G dM_take_95 rfl rfl ?_
        refine w_iload_n (pc := 96) (q := 2) G dM_take_96 rfl rfl ?_
        refine w_iconst (pc := 97) (v := (1 : Int32)) G dM_take_97 (by decide) ?_
        refine w_iadd (pc := 98) G dM_take_98 ?_
        obtain ⟨r99, e99, h⟩ := bd h
        refine w_callV (pc := 99) (av := [.int (v1 + (1 : Int32))]) (rest := [.int v4]) (v := some (.int r99)) (L' := (LM κ (s_made τ (vp_updL (m_made τ) ((((4 : Int32) * v1) + (4 : Int32)) + v4).toNatClampNeg (((m_made τ) (((4 : Int32) * v1) + v4).toNatClampNeg) + (((m_multiple τ) v1.toNatClampNeg) * ((m_row τ) (((4 : Int32) * v1) + v4).toNatClampNeg))))) X)) (T := TM) (fs := mfl κ (s_made τ (vp_updL (m_made τ) ((((4 : Int32) * v1) + (4 : Int32)) + v4).toNatClampNeg (((m_made τ) (((4 : Int32) * v1) + v4).toNatClampNeg) + (((m_multiple τ) v1.toNatClampNeg) * ((m_row τ) (((4 : Int32) * v1) + v4).toNatClampNeg)))))) G 0 0 27 (by decide) rfl rfl cb_M_open_M_take wd676 ws33 wd674 (met_M_open κ X F (s_made τ (vp_updL (m_made τ) ((((4 : Int32) * v1) + (4 : Int32)) + v4).toNatClampNeg (((m_made τ) (((4 : Int32) * v1) + v4).toNatClampNeg) + (((m_multiple τ) v1.toNatClampNeg) * ((m_row τ) (((4 : Int32) * v1) + v4).toNatClampNeg))))) (v1 + (1 : Int32)) e99) rfl rfl rfl (Nat.le_of_ble_eq_true rfl) dM_take_99 ?_
        refine w_icmp_ge (pc := 102) (tgt := 115) G dM_take_102 (by decide) (fun c102 => ?_) (fun c102 => ?_)
        · have h := if_t c102 h
          refine w_lload_n (pc := 115) (q := 3) G dM_take_115 rfl rfl ?_
          refine w_lstore_n (pc := 116) (lv' := [(2, .long v2), (5, .long (((vp_updL (m_made τ) ((((4 : Int32) * v1) + (4 : Int32)) + v4).toNatClampNeg (((m_made τ) (((4 : Int32) * v1) + v4).toNatClampNeg) + (((m_multiple τ) v1.toNatClampNeg) * ((m_row τ) (((4 : Int32) * v1) + v4).toNatClampNeg)))) ((((4 : Int32) * v1) + (4 : Int32)) + v4).toNatClampNeg) - ((m_point τ) v4.toNatClampNeg))), (0, .ref (κ.1 0)), (1, .int v1), (4, .int v4)]) G dM_take_116 rfl (by decide) rfl ?_
          refine w_iinc (pc := 117) (q0 := 4) (v := (v4 + 1)) (lv' := [(4, .int (v4 + 1)), (2, .long v2), (5, .long (((vp_updL (m_made τ) ((((4 : Int32) * v1) + (4 : Int32)) + v4).toNatClampNeg (((m_made τ) (((4 : Int32) * v1) + v4).toNatClampNeg) + (((m_multiple τ) v1.toNatClampNeg) * ((m_row τ) (((4 : Int32) * v1) + v4).toNatClampNeg)))) ((((4 : Int32) * v1) + (4 : Int32)) + v4).toNatClampNeg) - ((m_point τ) v4.toNatClampNeg))), (0, .ref (κ.1 0)), (1, .int v1)]) G dM_take_117 rfl rfl (by decide) rfl ?_
          refine w_goto (pc := 120) (tgt := 10) G dM_take_120 (by decide) ?_
          refine w_sub (lv' := [(0, .ref (κ.1 0)), (1, .int v1), (2, .long v2), (4, .int (v4 + 1))]) [3, 4, 1, 0] rfl ?_
          exact ih v2 (v4 + 1) (s_made τ (vp_updL (m_made τ) ((((4 : Int32) * v1) + (4 : Int32)) + v4).toNatClampNeg (((m_made τ) (((4 : Int32) * v1) + v4).toNatClampNeg) + (((m_multiple τ) v1.toNatClampNeg) * ((m_row τ) (((4 : Int32) * v1) + v4).toNatClampNeg))))) out h K
        · have h := if_f c102 h
          refine w_lload_n (pc := 105) (q := 3) G dM_take_105 rfl rfl ?_
          refine w_lload (pc := 106) (q := 0) G dM_take_106 rfl ?_
          refine w_lload (pc := 108) (q := 0) G dM_take_108 rfl ?_
          refine w_lmul (pc := 110) G dM_take_110 ?_
          refine w_ladd (pc := 111) G dM_take_111 ?_
          refine w_goto (pc := 112) (tgt := 116) G dM_take_112 (by decide) ?_
          refine w_lstore_n (pc := 116) (lv' := [(2, .long (v2 + ((((vp_updL (m_made τ) ((((4 : Int32) * v1) + (4 : Int32)) + v4).toNatClampNeg (((m_made τ) (((4 : Int32) * v1) + v4).toNatClampNeg) + (((m_multiple τ) v1.toNatClampNeg) * ((m_row τ) (((4 : Int32) * v1) + v4).toNatClampNeg)))) ((((4 : Int32) * v1) + (4 : Int32)) + v4).toNatClampNeg) - ((m_point τ) v4.toNatClampNeg)) * (((vp_updL (m_made τ) ((((4 : Int32) * v1) + (4 : Int32)) + v4).toNatClampNeg (((m_made τ) (((4 : Int32) * v1) + v4).toNatClampNeg) + (((m_multiple τ) v1.toNatClampNeg) * ((m_row τ) (((4 : Int32) * v1) + v4).toNatClampNeg)))) ((((4 : Int32) * v1) + (4 : Int32)) + v4).toNatClampNeg) - ((m_point τ) v4.toNatClampNeg))))), (5, .long (((vp_updL (m_made τ) ((((4 : Int32) * v1) + (4 : Int32)) + v4).toNatClampNeg (((m_made τ) (((4 : Int32) * v1) + v4).toNatClampNeg) + (((m_multiple τ) v1.toNatClampNeg) * ((m_row τ) (((4 : Int32) * v1) + v4).toNatClampNeg)))) ((((4 : Int32) * v1) + (4 : Int32)) + v4).toNatClampNeg) - ((m_point τ) v4.toNatClampNeg))), (0, .ref (κ.1 0)), (1, .int v1), (4, .int v4)]) G dM_take_116 rfl (by decide) rfl ?_
          refine w_iinc (pc := 117) (q0 := 4) (v := (v4 + 1)) (lv' := [(4, .int (v4 + 1)), (2, .long (v2 + ((((vp_updL (m_made τ) ((((4 : Int32) * v1) + (4 : Int32)) + v4).toNatClampNeg (((m_made τ) (((4 : Int32) * v1) + v4).toNatClampNeg) + (((m_multiple τ) v1.toNatClampNeg) * ((m_row τ) (((4 : Int32) * v1) + v4).toNatClampNeg)))) ((((4 : Int32) * v1) + (4 : Int32)) + v4).toNatClampNeg) - ((m_point τ) v4.toNatClampNeg)) * (((vp_updL (m_made τ) ((((4 : Int32) * v1) + (4 : Int32)) + v4).toNatClampNeg (((m_made τ) (((4 : Int32) * v1) + v4).toNatClampNeg) + (((m_multiple τ) v1.toNatClampNeg) * ((m_row τ) (((4 : Int32) * v1) + v4).toNatClampNeg)))) ((((4 : Int32) * v1) + (4 : Int32)) + v4).toNatClampNeg) - ((m_point τ) v4.toNatClampNeg))))), (5, .long (((vp_updL (m_made τ) ((((4 : Int32) * v1) + (4 : Int32)) + v4).toNatClampNeg (((m_made τ) (((4 : Int32) * v1) + v4).toNatClampNeg) + (((m_multiple τ) v1.toNatClampNeg) * ((m_row τ) (((4 : Int32) * v1) + v4).toNatClampNeg)))) ((((4 : Int32) * v1) + (4 : Int32)) + v4).toNatClampNeg) - ((m_point τ) v4.toNatClampNeg))), (0, .ref (κ.1 0)), (1, .int v1)]) G dM_take_117 rfl rfl (by decide) rfl ?_
          refine w_goto (pc := 120) (tgt := 10) G dM_take_120 (by decide) ?_
          refine w_sub (lv' := [(0, .ref (κ.1 0)), (1, .int v1), (2, .long (v2 + ((((vp_updL (m_made τ) ((((4 : Int32) * v1) + (4 : Int32)) + v4).toNatClampNeg (((m_made τ) (((4 : Int32) * v1) + v4).toNatClampNeg) + (((m_multiple τ) v1.toNatClampNeg) * ((m_row τ) (((4 : Int32) * v1) + v4).toNatClampNeg)))) ((((4 : Int32) * v1) + (4 : Int32)) + v4).toNatClampNeg) - ((m_point τ) v4.toNatClampNeg)) * (((vp_updL (m_made τ) ((((4 : Int32) * v1) + (4 : Int32)) + v4).toNatClampNeg (((m_made τ) (((4 : Int32) * v1) + v4).toNatClampNeg) + (((m_multiple τ) v1.toNatClampNeg) * ((m_row τ) (((4 : Int32) * v1) + v4).toNatClampNeg)))) ((((4 : Int32) * v1) + (4 : Int32)) + v4).toNatClampNeg) - ((m_point τ) v4.toNatClampNeg))))), (4, .int (v4 + 1))]) [3, 4, 1, 0] rfl ?_
          exact ih (v2 + ((((vp_updL (m_made τ) ((((4 : Int32) * v1) + (4 : Int32)) + v4).toNatClampNeg (((m_made τ) (((4 : Int32) * v1) + v4).toNatClampNeg) + (((m_multiple τ) v1.toNatClampNeg) * ((m_row τ) (((4 : Int32) * v1) + v4).toNatClampNeg)))) ((((4 : Int32) * v1) + (4 : Int32)) + v4).toNatClampNeg) - ((m_point τ) v4.toNatClampNeg)) * (((vp_updL (m_made τ) ((((4 : Int32) * v1) + (4 : Int32)) + v4).toNatClampNeg (((m_made τ) (((4 : Int32) * v1) + v4).toNatClampNeg) + (((m_multiple τ) v1.toNatClampNeg) * ((m_row τ) (((4 : Int32) * v1) + v4).toNatClampNeg)))) ((((4 : Int32) * v1) + (4 : Int32)) + v4).toNatClampNeg) - ((m_point τ) v4.toNatClampNeg)))) (v4 + 1) (s_made τ (vp_updL (m_made τ) ((((4 : Int32) * v1) + (4 : Int32)) + v4).toNatClampNeg (((m_made τ) (((4 : Int32) * v1) + v4).toNatClampNeg) + (((m_multiple τ) v1.toNatClampNeg) * ((m_row τ) (((4 : Int32) * v1) + v4).toNatClampNeg))))) out h K
noncomputable def M_take (F : Nat) (τ : MS) (v1 : Int32) : Option (MS) := gd (vp_in v1 5) ((lM_take_10 F v1 F ((m_settled τ) v1.toNatClampNeg) (0 : Int32) τ).bind (fun o10_8 => gd (vp_in (v1 + (1 : Int32)) 5) (some (s_settled o10_8.2 (vp_updL (m_settled o10_8.2) (v1 + (1 : Int32)).toNatClampNeg o10_8.1)))))
set_option maxHeartbeats 4000000 in
set_option maxRecDepth 100000 in
theorem met_M_take (κ : ctx) (X : Nat → va_E) (F : Nat) (τ : MS) (v1 : Int32) {out : MS} (h : M_take F τ v1 = some out) : Mt yM_take cM_take 7 none rm_M_take κ [.ref (κ.1 0), .int v1] (LM κ τ X) none (LM κ out X) := by
  refine Mt.of (by decide) (Nat.le_of_ble_eq_true rfl) ?_
  intro g G Fh
  unfold M_take at h
  show J g κ 7 0 [(0, .ref (κ.1 0)), (1, .int v1)] [] (LM κ τ X)
  refine w_aload_n (pc := 0) (q := 0) G dM_take_0 rfl rfl ?_
  refine w_get (pc := 1) (v := .ref (κ.1 8)) (fs := mfl κ τ) G 0 (by decide) rfl rfl wsM_ok 11 (by decide) wd501 rfl dM_take_1 ?_
  refine w_iload_n (pc := 4) (q := 1) G dM_take_4 rfl rfl ?_
  obtain ⟨i5, h⟩ := gd_some h
  refine w_lald (pc := 5) (n := 5) (f := (m_settled τ)) G 8 (by decide) rfl i5 dM_take_5 ?_
  refine w_lstore_n (pc := 6) (lv' := [(2, .long ((m_settled τ) v1.toNatClampNeg)), (0, .ref (κ.1 0)), (1, .int v1)]) G dM_take_6 rfl (by decide) rfl ?_
  refine w_iconst (pc := 7) (v := (0 : Int32)) G dM_take_7 (by decide) ?_
  refine w_istore (pc := 8) (lv' := [(4, .int (0 : Int32)), (2, .long ((m_settled τ) v1.toNatClampNeg)), (0, .ref (κ.1 0)), (1, .int v1)]) G dM_take_8 (by decide) rfl ?_
  refine w_sub (lv' := [(0, .ref (κ.1 0)), (1, .int v1), (2, .long ((m_settled τ) v1.toNatClampNeg)), (4, .int (0 : Int32))]) [2, 3, 1, 0] rfl ?_
  obtain ⟨o10_8, eo10_8, h⟩ := bd h
  refine lM_take_10_ok G X F v1 F ((m_settled τ) v1.toNatClampNeg) (0 : Int32) τ o10_8 eo10_8 ?_
  refine w_aload_n (pc := 123) (q := 0) G dM_take_123 rfl rfl ?_
  refine w_get (pc := 124) (v := .ref (κ.1 8)) (fs := mfl κ o10_8.2) G 0 (by decide) rfl rfl wsM_ok 11 (by decide) wd501 rfl dM_take_124 ?_
  refine w_iload_n (pc := 127) (q := 1) G dM_take_127 rfl rfl ?_
  refine w_iconst (pc := 128) (v := (1 : Int32)) G dM_take_128 (by decide) ?_
  refine w_iadd (pc := 129) G dM_take_129 ?_
  refine w_lload_n (pc := 130) (q := 2) G dM_take_130 rfl rfl ?_
  obtain ⟨i131, h⟩ := gd_some h
  refine w_last (pc := 131) (n := 5) (f := (m_settled o10_8.2)) (L1 := (LM κ (s_settled o10_8.2 (vp_updL (m_settled o10_8.2) (v1 + (1 : Int32)).toNatClampNeg o10_8.1)) X)) G 8 (by decide) rfl i131 dM_take_131 (LM_settled κ o10_8.2 X _) ?_
  obtain rfl := Option.some.inj h
  exact w_vret (pc := 132) G dM_take_132 Fh
def rm_M_along : Room := { frames := 4, cells := 0, slots := 0, locals := 103 }
theorem dM_along_0 : decode cM_along 0 = .ok (.aload_n 0, 1) := by decide +kernel
theorem dM_along_1 : decode cM_along 1 = .ok (.getfield 23, 3) := by decide +kernel
theorem dM_along_4 : decode cM_along 4 = .ok (.iload_n 1, 1) := by decide +kernel
theorem dM_along_5 : decode cM_along 5 = .ok (.lload_n 2, 1) := by decide +kernel
theorem dM_along_6 : decode cM_along 6 = .ok (.lastore, 1) := by decide +kernel
theorem dM_along_7 : decode cM_along 7 = .ok (.aload_n 0, 1) := by decide +kernel
theorem dM_along_8 : decode cM_along 8 = .ok (.iload_n 1, 1) := by decide +kernel
theorem dM_along_9 : decode cM_along 9 = .ok (.invokevirtual 143, 3) := by decide +kernel
theorem dM_along_12 : decode cM_along 12 = .ok (.aload_n 0, 1) := by decide +kernel
theorem dM_along_13 : decode cM_along 13 = .ok (.getfield 32, 3) := by decide +kernel
theorem dM_along_16 : decode cM_along 16 = .ok (.iload_n 1, 1) := by decide +kernel
theorem dM_along_17 : decode cM_along 17 = .ok (.iconst 1, 1) := by decide +kernel
theorem dM_along_18 : decode cM_along 18 = .ok (.iadd, 1) := by decide +kernel
theorem dM_along_19 : decode cM_along 19 = .ok (.laload, 1) := by decide +kernel
theorem dM_along_20 : decode cM_along 20 = .ok (.aload_n 0, 1) := by decide +kernel
theorem dM_along_21 : decode cM_along 21 = .ok (.getfield 132, 3) := by decide +kernel
theorem dM_along_24 : decode cM_along 24 = .ok (.lcmp, 1) := by decide +kernel
theorem dM_along_25 : decode cM_along 25 = .ok (.ifCond .gt 58, 3) := by decide +kernel
theorem dM_along_28 : decode cM_along 28 = .ok (.aload_n 0, 1) := by decide +kernel
theorem dM_along_29 : decode cM_along 29 = .ok (.getfield 146, 3) := by decide +kernel
theorem dM_along_32 : decode cM_along 32 = .ok (.iconst 2, 1) := by decide +kernel
theorem dM_along_33 : decode cM_along 33 = .ok (.if_icmp .ne 14, 3) := by decide +kernel
theorem dM_along_36 : decode cM_along 36 = .ok (.aload_n 0, 1) := by decide +kernel
theorem dM_along_37 : decode cM_along 37 = .ok (.getfield 149, 3) := by decide +kernel
theorem dM_along_40 : decode cM_along 40 = .ok (.aload_n 0, 1) := by decide +kernel
theorem dM_along_41 : decode cM_along 41 = .ok (.getfield 152, 3) := by decide +kernel
theorem dM_along_44 : decode cM_along 44 = .ok (.if_icmp .eq 39, 3) := by decide +kernel
theorem dM_along_47 : decode cM_along 47 = .ok (.aload_n 0, 1) := by decide +kernel
theorem dM_along_48 : decode cM_along 48 = .ok (.iconst 4, 1) := by decide +kernel
theorem dM_along_49 : decode cM_along 49 = .ok (.iload_n 1, 1) := by decide +kernel
theorem dM_along_50 : decode cM_along 50 = .ok (.imul, 1) := by decide +kernel
theorem dM_along_51 : decode cM_along 51 = .ok (.iconst 4, 1) := by decide +kernel
theorem dM_along_52 : decode cM_along 52 = .ok (.iadd, 1) := by decide +kernel
theorem dM_along_53 : decode cM_along 53 = .ok (.aload_n 0, 1) := by decide +kernel
theorem dM_along_54 : decode cM_along 54 = .ok (.getfield 32, 3) := by decide +kernel
theorem dM_along_57 : decode cM_along 57 = .ok (.iload_n 1, 1) := by decide +kernel
theorem dM_along_58 : decode cM_along 58 = .ok (.iconst 1, 1) := by decide +kernel
theorem dM_along_59 : decode cM_along 59 = .ok (.iadd, 1) := by decide +kernel
theorem dM_along_60 : decode cM_along 60 = .ok (.laload, 1) := by decide +kernel
theorem dM_along_61 : decode cM_along 61 = .ok (.invokevirtual 155, 3) := by decide +kernel
theorem dM_along_64 : decode cM_along 64 = .ok (.aload_n 0, 1) := by decide +kernel
theorem dM_along_65 : decode cM_along 65 = .ok (.getfield 23, 3) := by decide +kernel
theorem dM_along_68 : decode cM_along 68 = .ok (.iload_n 1, 1) := by decide +kernel
theorem dM_along_69 : decode cM_along 69 = .ok (.dup2, 1) := by decide +kernel
theorem dM_along_70 : decode cM_along 70 = .ok (.laload, 1) := by decide +kernel
theorem dM_along_71 : decode cM_along 71 = .ok (.lload 4, 2) := by decide +kernel
theorem dM_along_73 : decode cM_along 73 = .ok (.ladd, 1) := by decide +kernel
theorem dM_along_74 : decode cM_along 74 = .ok (.lastore, 1) := by decide +kernel
theorem dM_along_75 : decode cM_along 75 = .ok (.aload_n 0, 1) := by decide +kernel
theorem dM_along_76 : decode cM_along 76 = .ok (.iload_n 1, 1) := by decide +kernel
theorem dM_along_77 : decode cM_along 77 = .ok (.invokevirtual 143, 3) := by decide +kernel
theorem dM_along_80 : decode cM_along 80 = .ok (.goto (-68), 3) := by decide +kernel
theorem dM_along_83 : decode cM_along 83 = .ok (.return_, 1) := by decide +kernel
theorem cb_M_take_M_along : CB yM_take cM_take 7 none rm_M_take rm_M_along 1 := ⟨wd718, wd8, by decide +kernel, rfl, rfl, by decide⟩
theorem cb_M_visit_M_along : CB yM_visit cM_visit 4 none rm_M_visit rm_M_along 2 := ⟨wd681, wd8, by decide +kernel, rfl, rfl, by decide⟩
noncomputable def lM_along_12 (F : Nat) (v1 : Int32) (v4 : Int64) : Nat → MS → Option (MS)
  | 0, _ => none
  | n + 1, τ => gd (vp_in (v1 + (1 : Int32)) 5) (if (m_limit τ) < ((m_settled τ) (v1 + (1 : Int32)).toNatClampNeg) then some (τ) else if (m_mode τ) = (2 : Int32) then if (m_spanned τ) = (m_wanted τ) then some (τ) else gd (vp_in (v1 + (1 : Int32)) 5) ((M_visit F τ (((4 : Int32) * v1) + (4 : Int32)) ((m_settled τ) (v1 + (1 : Int32)).toNatClampNeg)).bind (fun r61 => gd (vp_in v1 4) (gd (vp_in v1 4) ((M_take F (s_multiple r61 (vp_updL (m_multiple r61) v1.toNatClampNeg (((m_multiple r61) v1.toNatClampNeg) + v4))) v1).bind (fun r77 => lM_along_12 F v1 v4 n  r77))))) else gd (vp_in (v1 + (1 : Int32)) 5) ((M_visit F τ (((4 : Int32) * v1) + (4 : Int32)) ((m_settled τ) (v1 + (1 : Int32)).toNatClampNeg)).bind (fun r61 => gd (vp_in v1 4) (gd (vp_in v1 4) ((M_take F (s_multiple r61 (vp_updL (m_multiple r61) v1.toNatClampNeg (((m_multiple r61) v1.toNatClampNeg) + v4))) v1).bind (fun r77 => lM_along_12 F v1 v4 n  r77))))))
set_option maxHeartbeats 4000000 in
set_option maxRecDepth 100000 in
theorem lM_along_12_ok {g : Gm} {κ : ctx} (G : OK g κ RM cM_along 6 none rm_M_along) (X : Nat → va_E) (F : Nat) (v1 : Int32) (v4 : Int64) : ∀ (n : Nat) (τ : MS) (out : MS), lM_along_12 F v1 v4 n τ = some out → (J g κ 6 83 [] [] (LM κ out X)) → J g κ 6 12 [(0, .ref (κ.1 0)), (1, .int v1), (4, .long v4)] [] (LM κ τ X) := by
  intro n
  induction n with
  | zero =>
    intro τ
    intro out h
    rw [lM_along_12] at h
    cases h
  | succ n ih =>
    intro τ out h K
    rw [lM_along_12] at h
    refine w_aload_n (pc := 12) (q := 0) G dM_along_12 rfl rfl ?_
    refine w_get (pc := 13) (v := .ref (κ.1 8)) (fs := mfl κ τ) G 0 (by decide) rfl rfl wsM_ok 11 (by decide) wd501 rfl dM_along_13 ?_
    refine w_iload_n (pc := 16) (q := 1) G dM_along_16 rfl rfl ?_
    refine w_iconst (pc := 17) (v := (1 : Int32)) G dM_along_17 (by decide) ?_
    refine w_iadd (pc := 18) G dM_along_18 ?_
    obtain ⟨i19, h⟩ := gd_some h
    refine w_lald (pc := 19) (n := 5) (f := (m_settled τ)) G 8 (by decide) rfl i19 dM_along_19 ?_
    refine w_aload_n (pc := 20) (q := 0) G dM_along_20 rfl rfl ?_
    refine w_get (pc := 21) (v := .long (m_limit τ)) (fs := mfl κ τ) G 0 (by decide) rfl rfl wsM_ok 13 (by decide) wd503 rfl dM_along_21 ?_
    refine w_lc_gt (pc := 24) (tgt := 83) G dM_along_24 dM_along_25 (by decide) (fun c24 => ?_) (fun c24 => ?_)
    · have h := if_t c24 h
      obtain rfl := Option.some.inj h
      refine w_sub (lv' := []) [] rfl ?_
      exact K
    · have h := if_f c24 h
      refine w_aload_n (pc := 28) (q := 0) G dM_along_28 rfl rfl ?_
      refine w_get (pc := 29) (v := .int (m_mode τ)) (fs := mfl κ τ) G 0 (by decide) rfl rfl wsM_ok 14 (by decide) wd504 rfl dM_along_29 ?_
      refine w_iconst (pc := 32) (v := (2 : Int32)) G dM_along_32 (by decide) ?_
      refine w_icmp_ne (pc := 33) (tgt := 47) G dM_along_33 (by decide) (fun c33 => ?_) (fun c33 => ?_)
      · have h := if_t c33 h
        refine w_aload_n (pc := 36) (q := 0) G dM_along_36 rfl rfl ?_
        refine w_get (pc := 37) (v := .int (m_spanned τ)) (fs := mfl κ τ) G 0 (by decide) rfl rfl wsM_ok 21 (by decide) wd511 rfl dM_along_37 ?_
        refine w_aload_n (pc := 40) (q := 0) G dM_along_40 rfl rfl ?_
        refine w_get (pc := 41) (v := .int (m_wanted τ)) (fs := mfl κ τ) G 0 (by decide) rfl rfl wsM_ok 20 (by decide) wd510 rfl dM_along_41 ?_
        refine w_icmp_eq (pc := 44) (tgt := 83) G dM_along_44 (by decide) (fun c44 => ?_) (fun c44 => ?_)
        · have h := if_t c44 h
          obtain rfl := Option.some.inj h
          refine w_sub (lv' := []) [] rfl ?_
          exact K
        · have h := if_f c44 h
          refine w_aload_n (pc := 47) (q := 0) G dM_along_47 rfl rfl ?_
          refine w_iconst (pc := 48) (v := (4 : Int32)) G dM_along_48 (by decide) ?_
          refine w_iload_n (pc := 49) (q := 1) G dM_along_49 rfl rfl ?_
          refine w_imul (pc := 50) G dM_along_50 ?_
          refine w_iconst (pc := 51) (v := (4 : Int32)) G dM_along_51 (by decide) ?_
          refine w_iadd (pc := 52) G dM_along_52 ?_
          refine w_aload_n (pc := 53) (q := 0) G dM_along_53 rfl rfl ?_
          refine w_get (pc := 54) (v := .ref (κ.1 8)) (fs := mfl κ τ) G 0 (by decide) rfl rfl wsM_ok 11 (by decide) wd501 rfl dM_along_54 ?_
          refine w_iload_n (pc := 57) (q := 1) G dM_along_57 rfl rfl ?_
          refine w_iconst (pc := 58) (v := (1 : Int32)) G dM_along_58 (by decide) ?_
          refine w_iadd (pc := 59) G dM_along_59 ?_
          obtain ⟨i60, h⟩ := gd_some h
          refine w_lald (pc := 60) (n := 5) (f := (m_settled τ)) G 8 (by decide) rfl i60 dM_along_60 ?_
          obtain ⟨r61, e61, h⟩ := bd h
          refine w_callV (pc := 61) (av := [.int (((4 : Int32) * v1) + (4 : Int32)), .long ((m_settled τ) (v1 + (1 : Int32)).toNatClampNeg)]) (rest := []) (v := none) (L' := (LM κ r61 X)) (T := TM) (fs := mfl κ τ) G 0 0 27 (by decide) rfl rfl cb_M_visit_M_along wd680 ws34 wd678 (met_M_visit κ X F τ (((4 : Int32) * v1) + (4 : Int32)) ((m_settled τ) (v1 + (1 : Int32)).toNatClampNeg) e61) rfl rfl rfl (Nat.le_of_ble_eq_true rfl) dM_along_61 ?_
          refine w_aload_n (pc := 64) (q := 0) G dM_along_64 rfl rfl ?_
          refine w_get (pc := 65) (v := .ref (κ.1 5)) (fs := mfl κ r61) G 0 (by decide) rfl rfl wsM_ok 8 (by decide) wd498 rfl dM_along_65 ?_
          refine w_iload_n (pc := 68) (q := 1) G dM_along_68 rfl rfl ?_
          refine w_dup2_11 (pc := 69) G dM_along_69 rfl rfl ?_
          obtain ⟨i70, h⟩ := gd_some h
          refine w_lald (pc := 70) (n := 4) (f := (m_multiple r61)) G 5 (by decide) rfl i70 dM_along_70 ?_
          refine w_lload (pc := 71) (q := 2) G dM_along_71 rfl ?_
          refine w_ladd (pc := 73) G dM_along_73 ?_
          obtain ⟨i74, h⟩ := gd_some h
          refine w_last (pc := 74) (n := 4) (f := (m_multiple r61)) (L1 := (LM κ (s_multiple r61 (vp_updL (m_multiple r61) v1.toNatClampNeg (((m_multiple r61) v1.toNatClampNeg) + v4))) X)) G 5 (by decide) rfl i74 dM_along_74 (LM_multiple κ r61 X _) ?_
          refine w_aload_n (pc := 75) (q := 0) G dM_along_75 rfl rfl ?_
          refine w_iload_n (pc := 76) (q := 1) G dM_along_76 rfl rfl ?_
          obtain ⟨r77, e77, h⟩ := bd h
          refine w_callV (pc := 77) (av := [.int v1]) (rest := []) (v := none) (L' := (LM κ r77 X)) (T := TM) (fs := mfl κ (s_multiple r61 (vp_updL (m_multiple r61) v1.toNatClampNeg (((m_multiple r61) v1.toNatClampNeg) + v4)))) G 0 0 27 (by decide) rfl rfl cb_M_take_M_along wd717 ws43 wd715 (met_M_take κ X F (s_multiple r61 (vp_updL (m_multiple r61) v1.toNatClampNeg (((m_multiple r61) v1.toNatClampNeg) + v4))) v1 e77) rfl rfl rfl (Nat.le_of_ble_eq_true rfl) dM_along_77 ?_
          refine w_goto (pc := 80) (tgt := 12) G dM_along_80 (by decide) ?_
          refine w_sub (lv' := [(0, .ref (κ.1 0)), (1, .int v1), (4, .long v4)]) [0, 1, 2] rfl ?_
          exact ih  r77 out h K
      · have h := if_f c33 h
        refine w_aload_n (pc := 47) (q := 0) G dM_along_47 rfl rfl ?_
        refine w_iconst (pc := 48) (v := (4 : Int32)) G dM_along_48 (by decide) ?_
        refine w_iload_n (pc := 49) (q := 1) G dM_along_49 rfl rfl ?_
        refine w_imul (pc := 50) G dM_along_50 ?_
        refine w_iconst (pc := 51) (v := (4 : Int32)) G dM_along_51 (by decide) ?_
        refine w_iadd (pc := 52) G dM_along_52 ?_
        refine w_aload_n (pc := 53) (q := 0) G dM_along_53 rfl rfl ?_
        refine w_get (pc := 54) (v := .ref (κ.1 8)) (fs := mfl κ τ) G 0 (by decide) rfl rfl wsM_ok 11 (by decide) wd501 rfl dM_along_54 ?_
        refine w_iload_n (pc := 57) (q := 1) G dM_along_57 rfl rfl ?_
        refine w_iconst (pc := 58) (v := (1 : Int32)) G dM_along_58 (by decide) ?_
        refine w_iadd (pc := 59) G dM_along_59 ?_
        obtain ⟨i60, h⟩ := gd_some h
        refine w_lald (pc := 60) (n := 5) (f := (m_settled τ)) G 8 (by decide) rfl i60 dM_along_60 ?_
        obtain ⟨r61, e61, h⟩ := bd h
        refine w_callV (pc := 61) (av := [.int (((4 : Int32) * v1) + (4 : Int32)), .long ((m_settled τ) (v1 + (1 : Int32)).toNatClampNeg)]) (rest := []) (v := none) (L' := (LM κ r61 X)) (T := TM) (fs := mfl κ τ) G 0 0 27 (by decide) rfl rfl cb_M_visit_M_along wd680 ws34 wd678 (met_M_visit κ X F τ (((4 : Int32) * v1) + (4 : Int32)) ((m_settled τ) (v1 + (1 : Int32)).toNatClampNeg) e61) rfl rfl rfl (Nat.le_of_ble_eq_true rfl) dM_along_61 ?_
        refine w_aload_n (pc := 64) (q := 0) G dM_along_64 rfl rfl ?_
        refine w_get (pc := 65) (v := .ref (κ.1 5)) (fs := mfl κ r61) G 0 (by decide) rfl rfl wsM_ok 8 (by decide) wd498 rfl dM_along_65 ?_
        refine w_iload_n (pc := 68) (q := 1) G dM_along_68 rfl rfl ?_
        refine w_dup2_11 (pc := 69) G dM_along_69 rfl rfl ?_
        obtain ⟨i70, h⟩ := gd_some h
        refine w_lald (pc := 70) (n := 4) (f := (m_multiple r61)) G 5 (by decide) rfl i70 dM_along_70 ?_
        refine w_lload (pc := 71) (q := 2) G dM_along_71 rfl ?_
        refine w_ladd (pc := 73) G dM_along_73 ?_
        obtain ⟨i74, h⟩ := gd_some h
        refine w_last (pc := 74) (n := 4) (f := (m_multiple r61)) (L1 := (LM κ (s_multiple r61 (vp_updL (m_multiple r61) v1.toNatClampNeg (((m_multiple r61) v1.toNatClampNeg) + v4))) X)) G 5 (by decide) rfl i74 dM_along_74 (LM_multiple κ r61 X _) ?_
        refine w_aload_n (pc := 75) (q := 0) G dM_along_75 rfl rfl ?_
        refine w_iload_n (pc := 76) (q := 1) G dM_along_76 rfl rfl ?_
        obtain ⟨r77, e77, h⟩ := bd h
        refine w_callV (pc := 77) (av := [.int v1]) (rest := []) (v := none) (L' := (LM κ r77 X)) (T := TM) (fs := mfl κ (s_multiple r61 (vp_updL (m_multiple r61) v1.toNatClampNeg (((m_multiple r61) v1.toNatClampNeg) + v4)))) G 0 0 27 (by decide) rfl rfl cb_M_take_M_along wd717 ws43 wd715 (met_M_take κ X F (s_multiple r61 (vp_updL (m_multiple r61) v1.toNatClampNeg (((m_multiple r61) v1.toNatClampNeg) + v4))) v1 e77) rfl rfl rfl (Nat.le_of_ble_eq_true rfl) dM_along_77 ?_
        refine w_goto (pc := 80) (tgt := 12) G dM_along_80 (by decide) ?_
        refine w_sub (lv' := [(0, .ref (κ.1 0)), (1, .int v1), (4, .long v4)]) [0, 1, 2] rfl ?_
        exact ih  r77 out h K
noncomputable def M_along (F : Nat) (τ : MS) (v1 : Int32) (v2 : Int64) (v4 : Int64) : Option (MS) := gd (vp_in v1 4) ((M_take F (s_multiple τ (vp_updL (m_multiple τ) v1.toNatClampNeg v2)) v1).bind (fun r9 => (lM_along_12 F v1 v4 F r9).bind (fun o12_8 => some o12_8)))
set_option maxHeartbeats 4000000 in
set_option maxRecDepth 100000 in
theorem met_M_along (κ : ctx) (X : Nat → va_E) (F : Nat) (τ : MS) (v1 : Int32) (v2 : Int64) (v4 : Int64) {out : MS} (h : M_along F τ v1 v2 v4 = some out) : Mt yM_along cM_along 6 none rm_M_along κ [.ref (κ.1 0), .int v1, .long v2, .long v4] (LM κ τ X) none (LM κ out X) := by
  refine Mt.of (by decide) (Nat.le_of_ble_eq_true rfl) ?_
  intro g G Fh
  unfold M_along at h
  show J g κ 6 0 [(0, .ref (κ.1 0)), (1, .int v1), (2, .long v2), (4, .long v4)] [] (LM κ τ X)
  refine w_aload_n (pc := 0) (q := 0) G dM_along_0 rfl rfl ?_
  refine w_get (pc := 1) (v := .ref (κ.1 5)) (fs := mfl κ τ) G 0 (by decide) rfl rfl wsM_ok 8 (by decide) wd498 rfl dM_along_1 ?_
  refine w_iload_n (pc := 4) (q := 1) G dM_along_4 rfl rfl ?_
  refine w_lload_n (pc := 5) (q := 2) G dM_along_5 rfl rfl ?_
  obtain ⟨i6, h⟩ := gd_some h
  refine w_last (pc := 6) (n := 4) (f := (m_multiple τ)) (L1 := (LM κ (s_multiple τ (vp_updL (m_multiple τ) v1.toNatClampNeg v2)) X)) G 5 (by decide) rfl i6 dM_along_6 (LM_multiple κ τ X _) ?_
  refine w_aload_n (pc := 7) (q := 0) G dM_along_7 rfl rfl ?_
  refine w_iload_n (pc := 8) (q := 1) G dM_along_8 rfl rfl ?_
  obtain ⟨r9, e9, h⟩ := bd h
  refine w_callV (pc := 9) (av := [.int v1]) (rest := []) (v := none) (L' := (LM κ r9 X)) (T := TM) (fs := mfl κ (s_multiple τ (vp_updL (m_multiple τ) v1.toNatClampNeg v2))) G 0 0 27 (by decide) rfl rfl cb_M_take_M_along wd717 ws43 wd715 (met_M_take κ X F (s_multiple τ (vp_updL (m_multiple τ) v1.toNatClampNeg v2)) v1 e9) rfl rfl rfl (Nat.le_of_ble_eq_true rfl) dM_along_9 ?_
  refine w_sub (lv' := [(0, .ref (κ.1 0)), (1, .int v1), (4, .long v4)]) [0, 1, 3] rfl ?_
  obtain ⟨o12_8, eo12_8, h⟩ := bd h
  refine lM_along_12_ok G X F v1 v4 F r9 o12_8 eo12_8 ?_
  obtain rfl := Option.some.inj h
  exact w_vret (pc := 83) G dM_along_83 Fh
def rm_M_finish : Room := { frames := 5, cells := 0, slots := 0, locals := 128 }
theorem dM_finish_0 : decode cM_finish 0 = .ok (.lconst 0, 1) := by decide +kernel
theorem dM_finish_1 : decode cM_finish 1 = .ok (.lstore_n 2, 1) := by decide +kernel
theorem dM_finish_2 : decode cM_finish 2 = .ok (.lconst 0, 1) := by decide +kernel
theorem dM_finish_3 : decode cM_finish 3 = .ok (.lstore 4, 2) := by decide +kernel
theorem dM_finish_5 : decode cM_finish 5 = .ok (.aload_n 0, 1) := by decide +kernel
theorem dM_finish_6 : decode cM_finish 6 = .ok (.getfield 17, 3) := by decide +kernel
theorem dM_finish_9 : decode cM_finish 9 = .ok (.iload_n 1, 1) := by decide +kernel
theorem dM_finish_10 : decode cM_finish 10 = .ok (.iaload, 1) := by decide +kernel
theorem dM_finish_11 : decode cM_finish 11 = .ok (.istore 6, 2) := by decide +kernel
theorem dM_finish_13 : decode cM_finish 13 = .ok (.iload 6, 2) := by decide +kernel
theorem dM_finish_15 : decode cM_finish 15 = .ok (.iconst 4, 1) := by decide +kernel
theorem dM_finish_16 : decode cM_finish 16 = .ok (.if_icmp .ge 71, 3) := by decide +kernel
theorem dM_finish_19 : decode cM_finish 19 = .ok (.lload_n 2, 1) := by decide +kernel
theorem dM_finish_20 : decode cM_finish 20 = .ok (.aload_n 0, 1) := by decide +kernel
theorem dM_finish_21 : decode cM_finish 21 = .ok (.getfield 13, 3) := by decide +kernel
theorem dM_finish_24 : decode cM_finish 24 = .ok (.iconst 4, 1) := by decide +kernel
theorem dM_finish_25 : decode cM_finish 25 = .ok (.iload_n 1, 1) := by decide +kernel
theorem dM_finish_26 : decode cM_finish 26 = .ok (.imul, 1) := by decide +kernel
theorem dM_finish_27 : decode cM_finish 27 = .ok (.iload 6, 2) := by decide +kernel
theorem dM_finish_29 : decode cM_finish 29 = .ok (.iadd, 1) := by decide +kernel
theorem dM_finish_30 : decode cM_finish 30 = .ok (.laload, 1) := by decide +kernel
theorem dM_finish_31 : decode cM_finish 31 = .ok (.aload_n 0, 1) := by decide +kernel
theorem dM_finish_32 : decode cM_finish 32 = .ok (.getfield 13, 3) := by decide +kernel
theorem dM_finish_35 : decode cM_finish 35 = .ok (.iconst 4, 1) := by decide +kernel
theorem dM_finish_36 : decode cM_finish 36 = .ok (.iload_n 1, 1) := by decide +kernel
theorem dM_finish_37 : decode cM_finish 37 = .ok (.imul, 1) := by decide +kernel
theorem dM_finish_38 : decode cM_finish 38 = .ok (.iload 6, 2) := by decide +kernel
theorem dM_finish_40 : decode cM_finish 40 = .ok (.iadd, 1) := by decide +kernel
theorem dM_finish_41 : decode cM_finish 41 = .ok (.laload, 1) := by decide +kernel
theorem dM_finish_42 : decode cM_finish 42 = .ok (.lmul, 1) := by decide +kernel
theorem dM_finish_43 : decode cM_finish 43 = .ok (.ladd, 1) := by decide +kernel
theorem dM_finish_44 : decode cM_finish 44 = .ok (.lstore_n 2, 1) := by decide +kernel
theorem dM_finish_45 : decode cM_finish 45 = .ok (.lload 4, 2) := by decide +kernel
theorem dM_finish_47 : decode cM_finish 47 = .ok (.aload_n 0, 1) := by decide +kernel
theorem dM_finish_48 : decode cM_finish 48 = .ok (.getfield 13, 3) := by decide +kernel
theorem dM_finish_51 : decode cM_finish 51 = .ok (.iconst 4, 1) := by decide +kernel
theorem dM_finish_52 : decode cM_finish 52 = .ok (.iload_n 1, 1) := by decide +kernel
theorem dM_finish_53 : decode cM_finish 53 = .ok (.imul, 1) := by decide +kernel
theorem dM_finish_54 : decode cM_finish 54 = .ok (.iload 6, 2) := by decide +kernel
theorem dM_finish_56 : decode cM_finish 56 = .ok (.iadd, 1) := by decide +kernel
theorem dM_finish_57 : decode cM_finish 57 = .ok (.laload, 1) := by decide +kernel
theorem dM_finish_58 : decode cM_finish 58 = .ok (.aload_n 0, 1) := by decide +kernel
theorem dM_finish_59 : decode cM_finish 59 = .ok (.getfield 35, 3) := by decide +kernel
theorem dM_finish_62 : decode cM_finish 62 = .ok (.iload 6, 2) := by decide +kernel
theorem dM_finish_64 : decode cM_finish 64 = .ok (.laload, 1) := by decide +kernel
theorem dM_finish_65 : decode cM_finish 65 = .ok (.aload_n 0, 1) := by decide +kernel
theorem dM_finish_66 : decode cM_finish 66 = .ok (.getfield 29, 3) := by decide +kernel
theorem dM_finish_69 : decode cM_finish 69 = .ok (.iconst 4, 1) := by decide +kernel
theorem dM_finish_70 : decode cM_finish 70 = .ok (.iload_n 1, 1) := by decide +kernel
theorem dM_finish_71 : decode cM_finish 71 = .ok (.imul, 1) := by decide +kernel
theorem dM_finish_72 : decode cM_finish 72 = .ok (.iload 6, 2) := by decide +kernel
theorem dM_finish_74 : decode cM_finish 74 = .ok (.iadd, 1) := by decide +kernel
theorem dM_finish_75 : decode cM_finish 75 = .ok (.laload, 1) := by decide +kernel
theorem dM_finish_76 : decode cM_finish 76 = .ok (.lsub, 1) := by decide +kernel
theorem dM_finish_77 : decode cM_finish 77 = .ok (.lmul, 1) := by decide +kernel
theorem dM_finish_78 : decode cM_finish 78 = .ok (.ladd, 1) := by decide +kernel
theorem dM_finish_79 : decode cM_finish 79 = .ok (.lstore 4, 2) := by decide +kernel
theorem dM_finish_81 : decode cM_finish 81 = .ok (.iinc 6 1, 3) := by decide +kernel
theorem dM_finish_84 : decode cM_finish 84 = .ok (.goto (-71), 3) := by decide +kernel
theorem dM_finish_87 : decode cM_finish 87 = .ok (.ldc2_w 130, 3) := by decide +kernel
theorem dM_finish_90 : decode cM_finish 90 = .ok (.lload 4, 2) := by decide +kernel
theorem dM_finish_92 : decode cM_finish 92 = .ok (.lmul, 1) := by decide +kernel
theorem dM_finish_93 : decode cM_finish 93 = .ok (.lload_n 2, 1) := by decide +kernel
theorem dM_finish_94 : decode cM_finish 94 = .ok (.ladd, 1) := by decide +kernel
theorem dM_finish_95 : decode cM_finish 95 = .ok (.ldc2_w 130, 3) := by decide +kernel
theorem dM_finish_98 : decode cM_finish 98 = .ok (.lload_n 2, 1) := by decide +kernel
theorem dM_finish_99 : decode cM_finish 99 = .ok (.lmul, 1) := by decide +kernel
theorem dM_finish_100 : decode cM_finish 100 = .ok (.invokestatic 81, 3) := by decide +kernel
theorem dM_finish_103 : decode cM_finish 103 = .ok (.lstore 6, 2) := by decide +kernel
theorem dM_finish_105 : decode cM_finish 105 = .ok (.aload_n 0, 1) := by decide +kernel
theorem dM_finish_106 : decode cM_finish 106 = .ok (.iload_n 1, 1) := by decide +kernel
theorem dM_finish_107 : decode cM_finish 107 = .ok (.lload 6, 2) := by decide +kernel
theorem dM_finish_109 : decode cM_finish 109 = .ok (.lconst 1, 1) := by decide +kernel
theorem dM_finish_110 : decode cM_finish 110 = .ok (.invokevirtual 159, 3) := by decide +kernel
theorem dM_finish_113 : decode cM_finish 113 = .ok (.aload_n 0, 1) := by decide +kernel
theorem dM_finish_114 : decode cM_finish 114 = .ok (.iload_n 1, 1) := by decide +kernel
theorem dM_finish_115 : decode cM_finish 115 = .ok (.lload 6, 2) := by decide +kernel
theorem dM_finish_117 : decode cM_finish 117 = .ok (.lconst 1, 1) := by decide +kernel
theorem dM_finish_118 : decode cM_finish 118 = .ok (.lsub, 1) := by decide +kernel
theorem dM_finish_119 : decode cM_finish 119 = .ok (.ldc2_w 126, 3) := by decide +kernel
theorem dM_finish_122 : decode cM_finish 122 = .ok (.invokevirtual 159, 3) := by decide +kernel
theorem dM_finish_125 : decode cM_finish 125 = .ok (.return_, 1) := by decide +kernel
theorem cb_M_along_M_finish : CB yM_along cM_along 6 none rm_M_along rm_M_finish 3 := ⟨wd714, wd8, by decide +kernel, rfl, rfl, by decide⟩
theorem cb_M_under_M_finish : CB yM_under cM_under 6 (some .long) rm_M_under rm_M_finish 2 := ⟨wd613, wd8, by decide +kernel, rfl, rfl, by decide⟩
noncomputable def lM_finish_13 (F : Nat) (τ : MS) (v1 : Int32) : Nat → Int64 → Int64 → Int32 → Option (Int64 × Int64)
  | 0, _, _, _ => none
  | n + 1, v2, v4, v6 => if (4 : Int32) ≤ v6 then some (v2, v4) else gd (vp_in (((4 : Int32) * v1) + v6) 16) (gd (vp_in (((4 : Int32) * v1) + v6) 16) (gd (vp_in (((4 : Int32) * v1) + v6) 16) (gd (vp_in v6 4) (gd (vp_in (((4 : Int32) * v1) + v6) 20) (lM_finish_13 F τ v1 n (v2 + (((m_row τ) (((4 : Int32) * v1) + v6).toNatClampNeg) * ((m_row τ) (((4 : Int32) * v1) + v6).toNatClampNeg))) (v4 + (((m_row τ) (((4 : Int32) * v1) + v6).toNatClampNeg) * (((m_point τ) v6.toNatClampNeg) - ((m_made τ) (((4 : Int32) * v1) + v6).toNatClampNeg)))) (v6 + 1))))))
set_option maxHeartbeats 4000000 in
set_option maxRecDepth 100000 in
theorem lM_finish_13_ok {g : Gm} {κ : ctx} (G : OK g κ RM cM_finish 8 none rm_M_finish) (X : Nat → va_E) (F : Nat) (τ : MS) (v1 : Int32) : ∀ (n : Nat) (v2 : Int64) (v4 : Int64) (v6 : Int32) (out : Int64 × Int64), lM_finish_13 F τ v1 n v2 v4 v6 = some out → (J g κ 8 87 [(0, .ref (κ.1 0)), (1, .int v1), (2, .long out.1), (4, .long out.2)] [] (LM κ τ X)) → J g κ 8 13 [(0, .ref (κ.1 0)), (1, .int v1), (2, .long v2), (4, .long v4), (6, .int v6)] [] (LM κ τ X) := by
  intro n
  induction n with
  | zero =>
    intro v2 v4 v6
    intro out h
    rw [lM_finish_13] at h
    cases h
  | succ n ih =>
    intro v2 v4 v6 out h K
    rw [lM_finish_13] at h
    refine w_iload (pc := 13) (q := 4) G dM_finish_13 rfl ?_
    refine w_iconst (pc := 15) (v := (4 : Int32)) G dM_finish_15 (by decide) ?_
    refine w_icmp_ge (pc := 16) (tgt := 87) G dM_finish_16 (by decide) (fun c16 => ?_) (fun c16 => ?_)
    · have h := if_t c16 h
      obtain rfl := Option.some.inj h
      refine w_sub (lv' := [(0, .ref (κ.1 0)), (1, .int v1), (2, .long v2), (4, .long v4)]) [0, 1, 2, 3] rfl ?_
      exact K
    · have h := if_f c16 h
      refine w_lload_n (pc := 19) (q := 2) G dM_finish_19 rfl rfl ?_
      refine w_aload_n (pc := 20) (q := 0) G dM_finish_20 rfl rfl ?_
      refine w_get (pc := 21) (v := .ref (κ.1 2)) (fs := mfl κ τ) G 0 (by decide) rfl rfl wsM_ok 5 (by decide) wd495 rfl dM_finish_21 ?_
      refine w_iconst (pc := 24) (v := (4 : Int32)) G dM_finish_24 (by decide) ?_
      refine w_iload_n (pc := 25) (q := 1) G dM_finish_25 rfl rfl ?_
      refine w_imul (pc := 26) G dM_finish_26 ?_
      refine w_iload (pc := 27) (q := 4) G dM_finish_27 rfl ?_
      refine w_iadd (pc := 29) G dM_finish_29 ?_
      obtain ⟨i30, h⟩ := gd_some h
      refine w_lald (pc := 30) (n := 16) (f := (m_row τ)) G 2 (by decide) rfl i30 dM_finish_30 ?_
      refine w_aload_n (pc := 31) (q := 0) G dM_finish_31 rfl rfl ?_
      refine w_get (pc := 32) (v := .ref (κ.1 2)) (fs := mfl κ τ) G 0 (by decide) rfl rfl wsM_ok 5 (by decide) wd495 rfl dM_finish_32 ?_
      refine w_iconst (pc := 35) (v := (4 : Int32)) G dM_finish_35 (by decide) ?_
      refine w_iload_n (pc := 36) (q := 1) G dM_finish_36 rfl rfl ?_
      refine w_imul (pc := 37) G dM_finish_37 ?_
      refine w_iload (pc := 38) (q := 4) G dM_finish_38 rfl ?_
      refine w_iadd (pc := 40) G dM_finish_40 ?_
      obtain ⟨i41, h⟩ := gd_some h
      refine w_lald (pc := 41) (n := 16) (f := (m_row τ)) G 2 (by decide) rfl i41 dM_finish_41 ?_
      refine w_lmul (pc := 42) G dM_finish_42 ?_
      refine w_ladd (pc := 43) G dM_finish_43 ?_
      refine w_lstore_n (pc := 44) (lv' := [(2, .long (v2 + (((m_row τ) (((4 : Int32) * v1) + v6).toNatClampNeg) * ((m_row τ) (((4 : Int32) * v1) + v6).toNatClampNeg)))), (0, .ref (κ.1 0)), (1, .int v1), (4, .long v4), (6, .int v6)]) G dM_finish_44 rfl (by decide) rfl ?_
      refine w_lload (pc := 45) (q := 3) G dM_finish_45 rfl ?_
      refine w_aload_n (pc := 47) (q := 1) G dM_finish_47 rfl rfl ?_
      refine w_get (pc := 48) (v := .ref (κ.1 2)) (fs := mfl κ τ) G 0 (by decide) rfl rfl wsM_ok 5 (by decide) wd495 rfl dM_finish_48 ?_
      refine w_iconst (pc := 51) (v := (4 : Int32)) G dM_finish_51 (by decide) ?_
      refine w_iload_n (pc := 52) (q := 2) G dM_finish_52 rfl rfl ?_
      refine w_imul (pc := 53) G dM_finish_53 ?_
      refine w_iload (pc := 54) (q := 4) G dM_finish_54 rfl ?_
      refine w_iadd (pc := 56) G dM_finish_56 ?_
      obtain ⟨i57, h⟩ := gd_some h
      refine w_lald (pc := 57) (n := 16) (f := (m_row τ)) G 2 (by decide) rfl i57 dM_finish_57 ?_
      refine w_aload_n (pc := 58) (q := 1) G dM_finish_58 rfl rfl ?_
      refine w_get (pc := 59) (v := .ref (κ.1 9)) (fs := mfl κ τ) G 0 (by decide) rfl rfl wsM_ok 12 (by decide) wd502 rfl dM_finish_59 ?_
      refine w_iload (pc := 62) (q := 4) G dM_finish_62 rfl ?_
      obtain ⟨i64, h⟩ := gd_some h
      refine w_lald (pc := 64) (n := 4) (f := (m_point τ)) G 9 (by decide) rfl i64 dM_finish_64 ?_
      refine w_aload_n (pc := 65) (q := 1) G dM_finish_65 rfl rfl ?_
      refine w_get (pc := 66) (v := .ref (κ.1 7)) (fs := mfl κ τ) G 0 (by decide) rfl rfl wsM_ok 10 (by decide) wd500 rfl dM_finish_66 ?_
      refine w_iconst (pc := 69) (v := (4 : Int32)) G dM_finish_69 (by decide) ?_
      refine w_iload_n (pc := 70) (q := 2) G dM_finish_70 rfl rfl ?_
      refine w_imul (pc := 71) G dM_finish_71 ?_
      refine w_iload (pc := 72) (q := 4) G dM_finish_72 rfl ?_
      refine w_iadd (pc := 74) G dM_finish_74 ?_
      obtain ⟨i75, h⟩ := gd_some h
      refine w_lald (pc := 75) (n := 20) (f := (m_made τ)) G 7 (by decide) rfl i75 dM_finish_75 ?_
      refine w_lsub (pc := 76) G dM_finish_76 ?_
      refine w_lmul (pc := 77) G dM_finish_77 ?_
      refine w_ladd (pc := 78) G dM_finish_78 ?_
      refine w_lstore (pc := 79) (lv' := [(4, .long (v4 + (((m_row τ) (((4 : Int32) * v1) + v6).toNatClampNeg) * (((m_point τ) v6.toNatClampNeg) - ((m_made τ) (((4 : Int32) * v1) + v6).toNatClampNeg))))), (2, .long (v2 + (((m_row τ) (((4 : Int32) * v1) + v6).toNatClampNeg) * ((m_row τ) (((4 : Int32) * v1) + v6).toNatClampNeg)))), (0, .ref (κ.1 0)), (1, .int v1), (6, .int v6)]) G dM_finish_79 (by decide) rfl ?_
      refine w_iinc (pc := 81) (q0 := 4) (v := (v6 + 1)) (lv' := [(6, .int (v6 + 1)), (4, .long (v4 + (((m_row τ) (((4 : Int32) * v1) + v6).toNatClampNeg) * (((m_point τ) v6.toNatClampNeg) - ((m_made τ) (((4 : Int32) * v1) + v6).toNatClampNeg))))), (2, .long (v2 + (((m_row τ) (((4 : Int32) * v1) + v6).toNatClampNeg) * ((m_row τ) (((4 : Int32) * v1) + v6).toNatClampNeg)))), (0, .ref (κ.1 0)), (1, .int v1)]) G dM_finish_81 rfl rfl (by decide) rfl ?_
      refine w_goto (pc := 84) (tgt := 13) G dM_finish_84 (by decide) ?_
      refine w_sub (lv' := [(0, .ref (κ.1 0)), (1, .int v1), (2, .long (v2 + (((m_row τ) (((4 : Int32) * v1) + v6).toNatClampNeg) * ((m_row τ) (((4 : Int32) * v1) + v6).toNatClampNeg)))), (4, .long (v4 + (((m_row τ) (((4 : Int32) * v1) + v6).toNatClampNeg) * (((m_point τ) v6.toNatClampNeg) - ((m_made τ) (((4 : Int32) * v1) + v6).toNatClampNeg))))), (6, .int (v6 + 1))]) [3, 4, 2, 1, 0] rfl ?_
      exact ih (v2 + (((m_row τ) (((4 : Int32) * v1) + v6).toNatClampNeg) * ((m_row τ) (((4 : Int32) * v1) + v6).toNatClampNeg))) (v4 + (((m_row τ) (((4 : Int32) * v1) + v6).toNatClampNeg) * (((m_point τ) v6.toNatClampNeg) - ((m_made τ) (((4 : Int32) * v1) + v6).toNatClampNeg)))) (v6 + 1) out h K
noncomputable def M_finish (F : Nat) (τ : MS) (v1 : Int32) : Option (MS) := gd (vp_in v1 5) ((lM_finish_13 F τ v1 F (0 : Int64) (0 : Int64) ((m_pivot τ) v1.toNatClampNeg)).bind (fun o13_4 => (M_under F (((2 : Int64) * o13_4.2) + o13_4.1) ((2 : Int64) * o13_4.1)).bind (fun r100 => (M_along F τ v1 r100 (1 : Int64)).bind (fun r110 => (M_along F r110 v1 (r100 - (1 : Int64)) (-1 : Int64)).bind (fun r122 => some r122)))))
set_option maxHeartbeats 4000000 in
set_option maxRecDepth 100000 in
theorem met_M_finish (κ : ctx) (X : Nat → va_E) (F : Nat) (τ : MS) (v1 : Int32) {out : MS} (h : M_finish F τ v1 = some out) : Mt yM_finish cM_finish 8 none rm_M_finish κ [.ref (κ.1 0), .int v1] (LM κ τ X) none (LM κ out X) := by
  refine Mt.of (by decide) (Nat.le_of_ble_eq_true rfl) ?_
  intro g G Fh
  unfold M_finish at h
  show J g κ 8 0 [(0, .ref (κ.1 0)), (1, .int v1)] [] (LM κ τ X)
  refine w_lconst (pc := 0) (v := (0 : Int64)) G dM_finish_0 (by decide) ?_
  refine w_lstore_n (pc := 1) (lv' := [(2, .long (0 : Int64)), (0, .ref (κ.1 0)), (1, .int v1)]) G dM_finish_1 rfl (by decide) rfl ?_
  refine w_lconst (pc := 2) (v := (0 : Int64)) G dM_finish_2 (by decide) ?_
  refine w_lstore (pc := 3) (lv' := [(4, .long (0 : Int64)), (2, .long (0 : Int64)), (0, .ref (κ.1 0)), (1, .int v1)]) G dM_finish_3 (by decide) rfl ?_
  refine w_aload_n (pc := 5) (q := 2) G dM_finish_5 rfl rfl ?_
  refine w_get (pc := 6) (v := .ref (κ.1 3)) (fs := mfl κ τ) G 0 (by decide) rfl rfl wsM_ok 6 (by decide) wd496 rfl dM_finish_6 ?_
  refine w_iload_n (pc := 9) (q := 3) G dM_finish_9 rfl rfl ?_
  obtain ⟨i10, h⟩ := gd_some h
  refine w_iald (pc := 10) (n := 5) (f := (m_pivot τ)) G 3 (by decide) rfl i10 dM_finish_10 ?_
  refine w_istore (pc := 11) (lv' := [(6, .int ((m_pivot τ) v1.toNatClampNeg)), (4, .long (0 : Int64)), (2, .long (0 : Int64)), (0, .ref (κ.1 0)), (1, .int v1)]) G dM_finish_11 (by decide) rfl ?_
  refine w_sub (lv' := [(0, .ref (κ.1 0)), (1, .int v1), (2, .long (0 : Int64)), (4, .long (0 : Int64)), (6, .int ((m_pivot τ) v1.toNatClampNeg))]) [3, 4, 2, 1, 0] rfl ?_
  obtain ⟨o13_4, eo13_4, h⟩ := bd h
  refine lM_finish_13_ok G X F τ v1 F (0 : Int64) (0 : Int64) ((m_pivot τ) v1.toNatClampNeg) o13_4 eo13_4 ?_
  refine w_ldc2 (pc := 87) (v := (2 : Int64)) G wd710 dM_finish_87 ?_
  refine w_lload (pc := 90) (q := 3) G dM_finish_90 rfl ?_
  refine w_lmul (pc := 92) G dM_finish_92 ?_
  refine w_lload_n (pc := 93) (q := 2) G dM_finish_93 rfl rfl ?_
  refine w_ladd (pc := 94) G dM_finish_94 ?_
  refine w_ldc2 (pc := 95) (v := (2 : Int64)) G wd710 dM_finish_95 ?_
  refine w_lload_n (pc := 98) (q := 2) G dM_finish_98 rfl rfl ?_
  refine w_lmul (pc := 99) G dM_finish_99 ?_
  obtain ⟨r100, e100, h⟩ := bd h
  refine w_callS (pc := 100) (av := [.long (((2 : Int64) * o13_4.2) + o13_4.1), .long ((2 : Int64) * o13_4.1)]) (rest := []) (v := some (.long r100)) (L' := (LM κ τ X)) G cb_M_under_M_finish wd612 wd611 (met_M_under κ (LM κ τ X) F (((2 : Int64) * o13_4.2) + o13_4.1) ((2 : Int64) * o13_4.1) e100) rfl rfl rfl (Nat.le_of_ble_eq_true rfl) dM_finish_100 ?_
  refine w_lstore (pc := 103) (lv' := [(6, .long r100), (0, .ref (κ.1 0)), (1, .int v1), (2, .long o13_4.1), (4, .long o13_4.2)]) G dM_finish_103 (by decide) rfl ?_
  refine w_aload_n (pc := 105) (q := 1) G dM_finish_105 rfl rfl ?_
  refine w_iload_n (pc := 106) (q := 2) G dM_finish_106 rfl rfl ?_
  refine w_lload (pc := 107) (q := 0) G dM_finish_107 rfl ?_
  refine w_lconst (pc := 109) (v := (1 : Int64)) G dM_finish_109 (by decide) ?_
  obtain ⟨r110, e110, h⟩ := bd h
  refine w_callV (pc := 110) (av := [.int v1, .long r100, .long (1 : Int64)]) (rest := []) (v := none) (L' := (LM κ r110 X)) (T := TM) (fs := mfl κ τ) G 0 0 27 (by decide) rfl rfl cb_M_along_M_finish wd713 ws42 wd711 (met_M_along κ X F τ v1 r100 (1 : Int64) e110) rfl rfl rfl (Nat.le_of_ble_eq_true rfl) dM_finish_110 ?_
  refine w_aload_n (pc := 113) (q := 1) G dM_finish_113 rfl rfl ?_
  refine w_iload_n (pc := 114) (q := 2) G dM_finish_114 rfl rfl ?_
  refine w_lload (pc := 115) (q := 0) G dM_finish_115 rfl ?_
  refine w_lconst (pc := 117) (v := (1 : Int64)) G dM_finish_117 (by decide) ?_
  refine w_lsub (pc := 118) G dM_finish_118 ?_
  refine w_ldc2 (pc := 119) (v := (-1 : Int64)) G wd661 dM_finish_119 ?_
  obtain ⟨r122, e122, h⟩ := bd h
  refine w_callV (pc := 122) (av := [.int v1, .long (r100 - (1 : Int64)), .long (-1 : Int64)]) (rest := []) (v := none) (L' := (LM κ r122 X)) (T := TM) (fs := mfl κ r110) G 0 0 27 (by decide) rfl rfl cb_M_along_M_finish wd713 ws42 wd711 (met_M_along κ X F r110 v1 (r100 - (1 : Int64)) (-1 : Int64) e122) rfl rfl rfl (Nat.le_of_ble_eq_true rfl) dM_finish_122 ?_
  obtain rfl := Option.some.inj h
  exact w_vret (pc := 125) G dM_finish_125 Fh
end
section
def rm_M_root : Room := { frames := 0, cells := 0, slots := 0, locals := 0 }
theorem dM_root_0 : decode cM_root 0 = .ok (.lconst 0, 1) := by decide +kernel
theorem dM_root_1 : decode cM_root 1 = .ok (.lstore_n 2, 1) := by decide +kernel
theorem dM_root_2 : decode cM_root 2 = .ok (.ldc2_w 128, 3) := by decide +kernel
theorem dM_root_5 : decode cM_root 5 = .ok (.lstore 4, 2) := by decide +kernel
theorem dM_root_7 : decode cM_root 7 = .ok (.lload 4, 2) := by decide +kernel
theorem dM_root_9 : decode cM_root 9 = .ok (.lconst 0, 1) := by decide +kernel
theorem dM_root_10 : decode cM_root 10 = .ok (.lcmp, 1) := by decide +kernel
theorem dM_root_11 : decode cM_root 11 = .ok (.ifCond .le 37, 3) := by decide +kernel
theorem dM_root_14 : decode cM_root 14 = .ok (.lload_n 2, 1) := by decide +kernel
theorem dM_root_15 : decode cM_root 15 = .ok (.lload 4, 2) := by decide +kernel
theorem dM_root_17 : decode cM_root 17 = .ok (.ladd, 1) := by decide +kernel
theorem dM_root_18 : decode cM_root 18 = .ok (.lload_n 2, 1) := by decide +kernel
theorem dM_root_19 : decode cM_root 19 = .ok (.lload 4, 2) := by decide +kernel
theorem dM_root_21 : decode cM_root 21 = .ok (.ladd, 1) := by decide +kernel
theorem dM_root_22 : decode cM_root 22 = .ok (.lmul, 1) := by decide +kernel
theorem dM_root_23 : decode cM_root 23 = .ok (.lload_n 0, 1) := by decide +kernel
theorem dM_root_24 : decode cM_root 24 = .ok (.lcmp, 1) := by decide +kernel
theorem dM_root_25 : decode cM_root 25 = .ok (.ifCond .gt 10, 3) := by decide +kernel
theorem dM_root_28 : decode cM_root 28 = .ok (.lload_n 2, 1) := by decide +kernel
theorem dM_root_29 : decode cM_root 29 = .ok (.lload 4, 2) := by decide +kernel
theorem dM_root_31 : decode cM_root 31 = .ok (.ladd, 1) := by decide +kernel
theorem dM_root_32 : decode cM_root 32 = .ok (.goto 4, 3) := by decide +kernel
theorem dM_root_35 : decode cM_root 35 = .ok (.lload_n 2, 1) := by decide +kernel
theorem dM_root_36 : decode cM_root 36 = .ok (.lstore_n 2, 1) := by decide +kernel
theorem dM_root_37 : decode cM_root 37 = .ok (.lload 4, 2) := by decide +kernel
theorem dM_root_39 : decode cM_root 39 = .ok (.ldc2_w 130, 3) := by decide +kernel
theorem dM_root_42 : decode cM_root 42 = .ok (.ldiv, 1) := by decide +kernel
theorem dM_root_43 : decode cM_root 43 = .ok (.lstore 4, 2) := by decide +kernel
theorem dM_root_45 : decode cM_root 45 = .ok (.goto (-38), 3) := by decide +kernel
theorem dM_root_48 : decode cM_root 48 = .ok (.lload_n 2, 1) := by decide +kernel
theorem dM_root_49 : decode cM_root 49 = .ok (.lreturn, 1) := by decide +kernel
noncomputable def lM_root_7 (F : Nat) (v0 : Int64) : Nat → Int64 → Int64 → Option (Int64)
  | 0, _, _ => none
  | n + 1, v2, v4 => if v4 ≤ (0 : Int64) then some (v2) else if v0 < ((v2 + v4) * (v2 + v4)) then lM_root_7 F v0 n v2 (v4 / (2 : Int64)) else lM_root_7 F v0 n (v2 + v4) (v4 / (2 : Int64))
set_option maxHeartbeats 4000000 in
set_option maxRecDepth 100000 in
theorem lM_root_7_ok {g : Gm} {κ : ctx} (G : OK g κ RM cM_root 6 (some .long) rm_M_root) (L : Nat → va_E) (F : Nat) (v0 : Int64) : ∀ (n : Nat) (v2 : Int64) (v4 : Int64) (out : Int64), lM_root_7 F v0 n v2 v4 = some out → (J g κ 6 48 [(2, .long out)] [] L) → J g κ 6 7 [(0, .long v0), (2, .long v2), (4, .long v4)] [] L := by
  intro n
  induction n with
  | zero =>
    intro v2 v4
    intro out h
    rw [lM_root_7] at h
    cases h
  | succ n ih =>
    intro v2 v4 out h K
    rw [lM_root_7] at h
    refine w_lload (pc := 7) (q := 2) G dM_root_7 rfl ?_
    refine w_lconst (pc := 9) (v := (0 : Int64)) G dM_root_9 (by decide) ?_
    refine w_lc_le (pc := 10) (tgt := 48) G dM_root_10 dM_root_11 (by decide) (fun c10 => ?_) (fun c10 => ?_)
    · have h := if_t c10 h
      obtain rfl := Option.some.inj h
      refine w_sub (lv' := [(2, .long v2)]) [1] rfl ?_
      exact K
    · have h := if_f c10 h
      refine w_lload_n (pc := 14) (q := 1) G dM_root_14 rfl rfl ?_
      refine w_lload (pc := 15) (q := 2) G dM_root_15 rfl ?_
      refine w_ladd (pc := 17) G dM_root_17 ?_
      refine w_lload_n (pc := 18) (q := 1) G dM_root_18 rfl rfl ?_
      refine w_lload (pc := 19) (q := 2) G dM_root_19 rfl ?_
      refine w_ladd (pc := 21) G dM_root_21 ?_
      refine w_lmul (pc := 22) G dM_root_22 ?_
      refine w_lload_n (pc := 23) (q := 0) G dM_root_23 rfl rfl ?_
      refine w_lc_gt (pc := 24) (tgt := 35) G dM_root_24 dM_root_25 (by decide) (fun c24 => ?_) (fun c24 => ?_)
      · have h := if_t c24 h
        refine w_lload_n (pc := 35) (q := 1) G dM_root_35 rfl rfl ?_
        refine w_lstore_n (pc := 36) (lv' := [(2, .long v2), (0, .long v0), (4, .long v4)]) G dM_root_36 rfl (by decide) rfl ?_
        refine w_lload (pc := 37) (q := 2) G dM_root_37 rfl ?_
        refine w_ldc2 (pc := 39) (v := (2 : Int64)) G wd710 dM_root_39 ?_
        refine w_ldiv (pc := 42) G dM_root_42 (by decide) ?_
        refine w_lstore (pc := 43) (lv' := [(4, .long (v4 / (2 : Int64))), (2, .long v2), (0, .long v0)]) G dM_root_43 (by decide) rfl ?_
        refine w_goto (pc := 45) (tgt := 7) G dM_root_45 (by decide) ?_
        refine w_sub (lv' := [(0, .long v0), (2, .long v2), (4, .long (v4 / (2 : Int64)))]) [2, 1, 0] rfl ?_
        exact ih v2 (v4 / (2 : Int64)) out h K
      · have h := if_f c24 h
        refine w_lload_n (pc := 28) (q := 1) G dM_root_28 rfl rfl ?_
        refine w_lload (pc := 29) (q := 2) G dM_root_29 rfl ?_
        refine w_ladd (pc := 31) G dM_root_31 ?_
        refine w_goto (pc := 32) (tgt := 36) G dM_root_32 (by decide) ?_
        refine w_lstore_n (pc := 36) (lv' := [(2, .long (v2 + v4)), (0, .long v0), (4, .long v4)]) G dM_root_36 rfl (by decide) rfl ?_
        refine w_lload (pc := 37) (q := 2) G dM_root_37 rfl ?_
        refine w_ldc2 (pc := 39) (v := (2 : Int64)) G wd710 dM_root_39 ?_
        refine w_ldiv (pc := 42) G dM_root_42 (by decide) ?_
        refine w_lstore (pc := 43) (lv' := [(4, .long (v4 / (2 : Int64))), (2, .long (v2 + v4)), (0, .long v0)]) G dM_root_43 (by decide) rfl ?_
        refine w_goto (pc := 45) (tgt := 7) G dM_root_45 (by decide) ?_
        refine w_sub (lv' := [(0, .long v0), (2, .long (v2 + v4)), (4, .long (v4 / (2 : Int64)))]) [2, 1, 0] rfl ?_
        exact ih (v2 + v4) (v4 / (2 : Int64)) out h K
noncomputable def M_root (F : Nat) (v0 : Int64) : Option (Int64) := (lM_root_7 F v0 F (0 : Int64) (65536 : Int64)).bind (fun o7_6 => some o7_6)
set_option maxHeartbeats 4000000 in
set_option maxRecDepth 100000 in
theorem met_M_root (κ : ctx) (L : Nat → va_E) (F : Nat) (v0 : Int64) {out : Int64} (h : M_root F v0 = some out) : Mt yM_root cM_root 6 (some .long) rm_M_root κ [.long v0] L (some (.long out)) L := by
  refine Mt.of (by decide) (Nat.le_of_ble_eq_true rfl) ?_
  intro g G Fh
  unfold M_root at h
  show J g κ 6 0 [(0, .long v0)] [] L
  refine w_lconst (pc := 0) (v := (0 : Int64)) G dM_root_0 (by decide) ?_
  refine w_lstore_n (pc := 1) (lv' := [(2, .long (0 : Int64)), (0, .long v0)]) G dM_root_1 rfl (by decide) rfl ?_
  refine w_ldc2 (pc := 2) (v := (65536 : Int64)) G wd726 dM_root_2 ?_
  refine w_lstore (pc := 5) (lv' := [(4, .long (65536 : Int64)), (2, .long (0 : Int64)), (0, .long v0)]) G dM_root_5 (by decide) rfl ?_
  refine w_sub (lv' := [(0, .long v0), (2, .long (0 : Int64)), (4, .long (65536 : Int64))]) [2, 1, 0] rfl ?_
  obtain ⟨o7_6, eo7_6, h⟩ := bd h
  refine lM_root_7_ok G L F v0 F (0 : Int64) (65536 : Int64) o7_6 eo7_6 ?_
  refine w_lload_n (pc := 48) (q := 0) G dM_root_48 rfl rfl ?_
  obtain rfl := Option.some.inj h
  exact w_lret (pc := 49) G dM_root_49 Fh
def rm_M_range : Room := { frames := 1, cells := 0, slots := 0, locals := 25 }
theorem dM_range_0 : decode cM_range 0 = .ok (.aload_n 0, 1) := by decide +kernel
theorem dM_range_1 : decode cM_range 1 = .ok (.getfield 17, 3) := by decide +kernel
theorem dM_range_4 : decode cM_range 4 = .ok (.iload_n 1, 1) := by decide +kernel
theorem dM_range_5 : decode cM_range 5 = .ok (.iaload, 1) := by decide +kernel
theorem dM_range_6 : decode cM_range 6 = .ok (.istore_n 2, 1) := by decide +kernel
theorem dM_range_7 : decode cM_range 7 = .ok (.aload_n 0, 1) := by decide +kernel
theorem dM_range_8 : decode cM_range 8 = .ok (.getfield 13, 3) := by decide +kernel
theorem dM_range_11 : decode cM_range 11 = .ok (.iconst 4, 1) := by decide +kernel
theorem dM_range_12 : decode cM_range 12 = .ok (.iload_n 1, 1) := by decide +kernel
theorem dM_range_13 : decode cM_range 13 = .ok (.imul, 1) := by decide +kernel
theorem dM_range_14 : decode cM_range 14 = .ok (.iload_n 2, 1) := by decide +kernel
theorem dM_range_15 : decode cM_range 15 = .ok (.iadd, 1) := by decide +kernel
theorem dM_range_16 : decode cM_range 16 = .ok (.laload, 1) := by decide +kernel
theorem dM_range_17 : decode cM_range 17 = .ok (.lstore_n 3, 1) := by decide +kernel
theorem dM_range_18 : decode cM_range 18 = .ok (.aload_n 0, 1) := by decide +kernel
theorem dM_range_19 : decode cM_range 19 = .ok (.getfield 132, 3) := by decide +kernel
theorem dM_range_22 : decode cM_range 22 = .ok (.aload_n 0, 1) := by decide +kernel
theorem dM_range_23 : decode cM_range 23 = .ok (.getfield 32, 3) := by decide +kernel
theorem dM_range_26 : decode cM_range 26 = .ok (.iload_n 1, 1) := by decide +kernel
theorem dM_range_27 : decode cM_range 27 = .ok (.laload, 1) := by decide +kernel
theorem dM_range_28 : decode cM_range 28 = .ok (.lsub, 1) := by decide +kernel
theorem dM_range_29 : decode cM_range 29 = .ok (.invokestatic 136, 3) := by decide +kernel
theorem dM_range_32 : decode cM_range 32 = .ok (.lstore 5, 2) := by decide +kernel
theorem dM_range_34 : decode cM_range 34 = .ok (.aload_n 0, 1) := by decide +kernel
theorem dM_range_35 : decode cM_range 35 = .ok (.getfield 29, 3) := by decide +kernel
theorem dM_range_38 : decode cM_range 38 = .ok (.iconst 4, 1) := by decide +kernel
theorem dM_range_39 : decode cM_range 39 = .ok (.iload_n 1, 1) := by decide +kernel
theorem dM_range_40 : decode cM_range 40 = .ok (.imul, 1) := by decide +kernel
theorem dM_range_41 : decode cM_range 41 = .ok (.iload_n 2, 1) := by decide +kernel
theorem dM_range_42 : decode cM_range 42 = .ok (.iadd, 1) := by decide +kernel
theorem dM_range_43 : decode cM_range 43 = .ok (.laload, 1) := by decide +kernel
theorem dM_range_44 : decode cM_range 44 = .ok (.aload_n 0, 1) := by decide +kernel
theorem dM_range_45 : decode cM_range 45 = .ok (.getfield 35, 3) := by decide +kernel
theorem dM_range_48 : decode cM_range 48 = .ok (.iload_n 2, 1) := by decide +kernel
theorem dM_range_49 : decode cM_range 49 = .ok (.laload, 1) := by decide +kernel
theorem dM_range_50 : decode cM_range 50 = .ok (.lsub, 1) := by decide +kernel
theorem dM_range_51 : decode cM_range 51 = .ok (.lstore 7, 2) := by decide +kernel
theorem dM_range_53 : decode cM_range 53 = .ok (.aload_n 0, 1) := by decide +kernel
theorem dM_range_54 : decode cM_range 54 = .ok (.getfield 23, 3) := by decide +kernel
theorem dM_range_57 : decode cM_range 57 = .ok (.iload_n 1, 1) := by decide +kernel
theorem dM_range_58 : decode cM_range 58 = .ok (.lload 7, 2) := by decide +kernel
theorem dM_range_60 : decode cM_range 60 = .ok (.lload 5, 2) := by decide +kernel
theorem dM_range_62 : decode cM_range 62 = .ok (.ladd, 1) := by decide +kernel
theorem dM_range_63 : decode cM_range 63 = .ok (.lload_n 3, 1) := by decide +kernel
theorem dM_range_64 : decode cM_range 64 = .ok (.invokestatic 81, 3) := by decide +kernel
theorem dM_range_67 : decode cM_range 67 = .ok (.lneg, 1) := by decide +kernel
theorem dM_range_68 : decode cM_range 68 = .ok (.lconst 1, 1) := by decide +kernel
theorem dM_range_69 : decode cM_range 69 = .ok (.lsub, 1) := by decide +kernel
theorem dM_range_70 : decode cM_range 70 = .ok (.lastore, 1) := by decide +kernel
theorem dM_range_71 : decode cM_range 71 = .ok (.aload_n 0, 1) := by decide +kernel
theorem dM_range_72 : decode cM_range 72 = .ok (.getfield 26, 3) := by decide +kernel
theorem dM_range_75 : decode cM_range 75 = .ok (.iload_n 1, 1) := by decide +kernel
theorem dM_range_76 : decode cM_range 76 = .ok (.lload 5, 2) := by decide +kernel
theorem dM_range_78 : decode cM_range 78 = .ok (.lload 7, 2) := by decide +kernel
theorem dM_range_80 : decode cM_range 80 = .ok (.lsub, 1) := by decide +kernel
theorem dM_range_81 : decode cM_range 81 = .ok (.lload_n 3, 1) := by decide +kernel
theorem dM_range_82 : decode cM_range 82 = .ok (.invokestatic 81, 3) := by decide +kernel
theorem dM_range_85 : decode cM_range 85 = .ok (.lastore, 1) := by decide +kernel
theorem dM_range_86 : decode cM_range 86 = .ok (.return_, 1) := by decide +kernel
theorem cb_M_root_M_range : CB yM_root cM_root 6 (some .long) rm_M_root rm_M_range 1 := ⟨wd725, wd8, by decide +kernel, rfl, rfl, by decide⟩
theorem cb_M_under_M_range : CB yM_under cM_under 6 (some .long) rm_M_under rm_M_range 2 := ⟨wd613, wd8, by decide +kernel, rfl, rfl, by decide⟩
noncomputable def M_range (F : Nat) (τ : MS) (v1 : Int32) : Option (MS) := gd (vp_in v1 5) (gd (vp_in (((4 : Int32) * v1) + ((m_pivot τ) v1.toNatClampNeg)) 16) (gd (vp_in v1 5) ((M_root F ((m_limit τ) - ((m_settled τ) v1.toNatClampNeg))).bind (fun r29 => gd (vp_in (((4 : Int32) * v1) + ((m_pivot τ) v1.toNatClampNeg)) 20) (gd (vp_in ((m_pivot τ) v1.toNatClampNeg) 4) ((M_under F ((((m_made τ) (((4 : Int32) * v1) + ((m_pivot τ) v1.toNatClampNeg)).toNatClampNeg) - ((m_point τ) ((m_pivot τ) v1.toNatClampNeg).toNatClampNeg)) + r29) ((m_row τ) (((4 : Int32) * v1) + ((m_pivot τ) v1.toNatClampNeg)).toNatClampNeg)).bind (fun r64 => gd (vp_in v1 4) ((M_under F (r29 - (((m_made τ) (((4 : Int32) * v1) + ((m_pivot τ) v1.toNatClampNeg)).toNatClampNeg) - ((m_point τ) ((m_pivot τ) v1.toNatClampNeg).toNatClampNeg))) ((m_row τ) (((4 : Int32) * v1) + ((m_pivot τ) v1.toNatClampNeg)).toNatClampNeg)).bind (fun r82 => gd (vp_in v1 4) (some (s_last (s_multiple τ (vp_updL (m_multiple τ) v1.toNatClampNeg ((-r64) - (1 : Int64)))) (vp_updL (m_last τ) v1.toNatClampNeg r82))))))))))))
set_option maxHeartbeats 4000000 in
set_option maxRecDepth 100000 in
theorem met_M_range (κ : ctx) (X : Nat → va_E) (F : Nat) (τ : MS) (v1 : Int32) {out : MS} (h : M_range F τ v1 = some out) : Mt yM_range cM_range 9 none rm_M_range κ [.ref (κ.1 0), .int v1] (LM κ τ X) none (LM κ out X) := by
  refine Mt.of (by decide) (Nat.le_of_ble_eq_true rfl) ?_
  intro g G Fh
  unfold M_range at h
  show J g κ 9 0 [(0, .ref (κ.1 0)), (1, .int v1)] [] (LM κ τ X)
  refine w_aload_n (pc := 0) (q := 0) G dM_range_0 rfl rfl ?_
  refine w_get (pc := 1) (v := .ref (κ.1 3)) (fs := mfl κ τ) G 0 (by decide) rfl rfl wsM_ok 6 (by decide) wd496 rfl dM_range_1 ?_
  refine w_iload_n (pc := 4) (q := 1) G dM_range_4 rfl rfl ?_
  obtain ⟨i5, h⟩ := gd_some h
  refine w_iald (pc := 5) (n := 5) (f := (m_pivot τ)) G 3 (by decide) rfl i5 dM_range_5 ?_
  refine w_istore_n (pc := 6) (lv' := [(2, .int ((m_pivot τ) v1.toNatClampNeg)), (0, .ref (κ.1 0)), (1, .int v1)]) G dM_range_6 rfl (by decide) rfl ?_
  refine w_aload_n (pc := 7) (q := 1) G dM_range_7 rfl rfl ?_
  refine w_get (pc := 8) (v := .ref (κ.1 2)) (fs := mfl κ τ) G 0 (by decide) rfl rfl wsM_ok 5 (by decide) wd495 rfl dM_range_8 ?_
  refine w_iconst (pc := 11) (v := (4 : Int32)) G dM_range_11 (by decide) ?_
  refine w_iload_n (pc := 12) (q := 2) G dM_range_12 rfl rfl ?_
  refine w_imul (pc := 13) G dM_range_13 ?_
  refine w_iload_n (pc := 14) (q := 0) G dM_range_14 rfl rfl ?_
  refine w_iadd (pc := 15) G dM_range_15 ?_
  obtain ⟨i16, h⟩ := gd_some h
  refine w_lald (pc := 16) (n := 16) (f := (m_row τ)) G 2 (by decide) rfl i16 dM_range_16 ?_
  refine w_lstore_n (pc := 17) (lv' := [(3, .long ((m_row τ) (((4 : Int32) * v1) + ((m_pivot τ) v1.toNatClampNeg)).toNatClampNeg)), (2, .int ((m_pivot τ) v1.toNatClampNeg)), (0, .ref (κ.1 0)), (1, .int v1)]) G dM_range_17 rfl (by decide) rfl ?_
  refine w_aload_n (pc := 18) (q := 2) G dM_range_18 rfl rfl ?_
  refine w_get (pc := 19) (v := .long (m_limit τ)) (fs := mfl κ τ) G 0 (by decide) rfl rfl wsM_ok 13 (by decide) wd503 rfl dM_range_19 ?_
  refine w_aload_n (pc := 22) (q := 2) G dM_range_22 rfl rfl ?_
  refine w_get (pc := 23) (v := .ref (κ.1 8)) (fs := mfl κ τ) G 0 (by decide) rfl rfl wsM_ok 11 (by decide) wd501 rfl dM_range_23 ?_
  refine w_iload_n (pc := 26) (q := 3) G dM_range_26 rfl rfl ?_
  obtain ⟨i27, h⟩ := gd_some h
  refine w_lald (pc := 27) (n := 5) (f := (m_settled τ)) G 8 (by decide) rfl i27 dM_range_27 ?_
  refine w_lsub (pc := 28) G dM_range_28 ?_
  obtain ⟨r29, e29, h⟩ := bd h
  refine w_callS (pc := 29) (av := [.long ((m_limit τ) - ((m_settled τ) v1.toNatClampNeg))]) (rest := []) (v := some (.long r29)) (L' := (LM κ τ X)) G cb_M_root_M_range wd724 wd723 (met_M_root κ (LM κ τ X) F ((m_limit τ) - ((m_settled τ) v1.toNatClampNeg)) e29) rfl rfl rfl (Nat.le_of_ble_eq_true rfl) dM_range_29 ?_
  refine w_lstore (pc := 32) (lv' := [(5, .long r29), (3, .long ((m_row τ) (((4 : Int32) * v1) + ((m_pivot τ) v1.toNatClampNeg)).toNatClampNeg)), (2, .int ((m_pivot τ) v1.toNatClampNeg)), (0, .ref (κ.1 0)), (1, .int v1)]) G dM_range_32 (by decide) rfl ?_
  refine w_aload_n (pc := 34) (q := 3) G dM_range_34 rfl rfl ?_
  refine w_get (pc := 35) (v := .ref (κ.1 7)) (fs := mfl κ τ) G 0 (by decide) rfl rfl wsM_ok 10 (by decide) wd500 rfl dM_range_35 ?_
  refine w_iconst (pc := 38) (v := (4 : Int32)) G dM_range_38 (by decide) ?_
  refine w_iload_n (pc := 39) (q := 4) G dM_range_39 rfl rfl ?_
  refine w_imul (pc := 40) G dM_range_40 ?_
  refine w_iload_n (pc := 41) (q := 2) G dM_range_41 rfl rfl ?_
  refine w_iadd (pc := 42) G dM_range_42 ?_
  obtain ⟨i43, h⟩ := gd_some h
  refine w_lald (pc := 43) (n := 20) (f := (m_made τ)) G 7 (by decide) rfl i43 dM_range_43 ?_
  refine w_aload_n (pc := 44) (q := 3) G dM_range_44 rfl rfl ?_
  refine w_get (pc := 45) (v := .ref (κ.1 9)) (fs := mfl κ τ) G 0 (by decide) rfl rfl wsM_ok 12 (by decide) wd502 rfl dM_range_45 ?_
  refine w_iload_n (pc := 48) (q := 2) G dM_range_48 rfl rfl ?_
  obtain ⟨i49, h⟩ := gd_some h
  refine w_lald (pc := 49) (n := 4) (f := (m_point τ)) G 9 (by decide) rfl i49 dM_range_49 ?_
  refine w_lsub (pc := 50) G dM_range_50 ?_
  refine w_lstore (pc := 51) (lv' := [(7, .long (((m_made τ) (((4 : Int32) * v1) + ((m_pivot τ) v1.toNatClampNeg)).toNatClampNeg) - ((m_point τ) ((m_pivot τ) v1.toNatClampNeg).toNatClampNeg))), (5, .long r29), (3, .long ((m_row τ) (((4 : Int32) * v1) + ((m_pivot τ) v1.toNatClampNeg)).toNatClampNeg)), (2, .int ((m_pivot τ) v1.toNatClampNeg)), (0, .ref (κ.1 0)), (1, .int v1)]) G dM_range_51 (by decide) rfl ?_
  refine w_aload_n (pc := 53) (q := 4) G dM_range_53 rfl rfl ?_
  refine w_get (pc := 54) (v := .ref (κ.1 5)) (fs := mfl κ τ) G 0 (by decide) rfl rfl wsM_ok 8 (by decide) wd498 rfl dM_range_54 ?_
  refine w_iload_n (pc := 57) (q := 5) G dM_range_57 rfl rfl ?_
  refine w_lload (pc := 58) (q := 0) G dM_range_58 rfl ?_
  refine w_lload (pc := 60) (q := 1) G dM_range_60 rfl ?_
  refine w_ladd (pc := 62) G dM_range_62 ?_
  refine w_lload_n (pc := 63) (q := 2) G dM_range_63 rfl rfl ?_
  obtain ⟨r64, e64, h⟩ := bd h
  refine w_callS (pc := 64) (av := [.long ((((m_made τ) (((4 : Int32) * v1) + ((m_pivot τ) v1.toNatClampNeg)).toNatClampNeg) - ((m_point τ) ((m_pivot τ) v1.toNatClampNeg).toNatClampNeg)) + r29), .long ((m_row τ) (((4 : Int32) * v1) + ((m_pivot τ) v1.toNatClampNeg)).toNatClampNeg)]) (rest := [.int v1, .ref (κ.1 5)]) (v := some (.long r64)) (L' := (LM κ τ X)) G cb_M_under_M_range wd612 wd611 (met_M_under κ (LM κ τ X) F ((((m_made τ) (((4 : Int32) * v1) + ((m_pivot τ) v1.toNatClampNeg)).toNatClampNeg) - ((m_point τ) ((m_pivot τ) v1.toNatClampNeg).toNatClampNeg)) + r29) ((m_row τ) (((4 : Int32) * v1) + ((m_pivot τ) v1.toNatClampNeg)).toNatClampNeg) e64) rfl rfl rfl (Nat.le_of_ble_eq_true rfl) dM_range_64 ?_
  refine w_lneg (pc := 67) G dM_range_67 ?_
  refine w_lconst (pc := 68) (v := (1 : Int64)) G dM_range_68 (by decide) ?_
  refine w_lsub (pc := 69) G dM_range_69 ?_
  obtain ⟨i70, h⟩ := gd_some h
  refine w_last (pc := 70) (n := 4) (f := (m_multiple τ)) (L1 := (LM κ (s_multiple τ (vp_updL (m_multiple τ) v1.toNatClampNeg ((-r64) - (1 : Int64)))) X)) G 5 (by decide) rfl i70 dM_range_70 (LM_multiple κ τ X _) ?_
  refine w_aload_n (pc := 71) (q := 4) G dM_range_71 rfl rfl ?_
  refine w_get (pc := 72) (v := .ref (κ.1 6)) (fs := mfl κ (s_multiple τ (vp_updL (m_multiple τ) v1.toNatClampNeg ((-r64) - (1 : Int64))))) G 0 (by decide) rfl rfl wsM_ok 9 (by decide) wd499 rfl dM_range_72 ?_
  refine w_iload_n (pc := 75) (q := 5) G dM_range_75 rfl rfl ?_
  refine w_lload (pc := 76) (q := 1) G dM_range_76 rfl ?_
  refine w_lload (pc := 78) (q := 0) G dM_range_78 rfl ?_
  refine w_lsub (pc := 80) G dM_range_80 ?_
  refine w_lload_n (pc := 81) (q := 2) G dM_range_81 rfl rfl ?_
  obtain ⟨r82, e82, h⟩ := bd h
  refine w_callS (pc := 82) (av := [.long (r29 - (((m_made τ) (((4 : Int32) * v1) + ((m_pivot τ) v1.toNatClampNeg)).toNatClampNeg) - ((m_point τ) ((m_pivot τ) v1.toNatClampNeg).toNatClampNeg))), .long ((m_row τ) (((4 : Int32) * v1) + ((m_pivot τ) v1.toNatClampNeg)).toNatClampNeg)]) (rest := [.int v1, .ref (κ.1 6)]) (v := some (.long r82)) (L' := (LM κ (s_multiple τ (vp_updL (m_multiple τ) v1.toNatClampNeg ((-r64) - (1 : Int64)))) X)) G cb_M_under_M_range wd612 wd611 (met_M_under κ (LM κ (s_multiple τ (vp_updL (m_multiple τ) v1.toNatClampNeg ((-r64) - (1 : Int64)))) X) F (r29 - (((m_made τ) (((4 : Int32) * v1) + ((m_pivot τ) v1.toNatClampNeg)).toNatClampNeg) - ((m_point τ) ((m_pivot τ) v1.toNatClampNeg).toNatClampNeg))) ((m_row τ) (((4 : Int32) * v1) + ((m_pivot τ) v1.toNatClampNeg)).toNatClampNeg) e82) rfl rfl rfl (Nat.le_of_ble_eq_true rfl) dM_range_82 ?_
  obtain ⟨i85, h⟩ := gd_some h
  refine w_last (pc := 85) (n := 4) (f := (m_last τ)) (L1 := (LM κ (s_last (s_multiple τ (vp_updL (m_multiple τ) v1.toNatClampNeg ((-r64) - (1 : Int64)))) (vp_updL (m_last τ) v1.toNatClampNeg r82)) X)) G 6 (by decide) rfl i85 dM_range_85 (LM_last κ (s_multiple τ (vp_updL (m_multiple τ) v1.toNatClampNeg ((-r64) - (1 : Int64)))) X _) ?_
  obtain rfl := Option.some.inj h
  exact w_vret (pc := 86) G dM_range_86 Fh
def rm_M_walk : Room := { frames := 6, cells := 0, slots := 0, locals := 155 }
theorem dM_walk_0 : decode cM_walk 0 = .ok (.aload_n 0, 1) := by decide +kernel
theorem dM_walk_1 : decode cM_walk 1 = .ok (.iload_n 1, 1) := by decide +kernel
theorem dM_walk_2 : decode cM_walk 2 = .ok (.putfield 146, 3) := by decide +kernel
theorem dM_walk_5 : decode cM_walk 5 = .ok (.aload_n 0, 1) := by decide +kernel
theorem dM_walk_6 : decode cM_walk 6 = .ok (.lload_n 2, 1) := by decide +kernel
theorem dM_walk_7 : decode cM_walk 7 = .ok (.putfield 132, 3) := by decide +kernel
theorem dM_walk_10 : decode cM_walk 10 = .ok (.aload_n 0, 1) := by decide +kernel
theorem dM_walk_11 : decode cM_walk 11 = .ok (.getfield 32, 3) := by decide +kernel
theorem dM_walk_14 : decode cM_walk 14 = .ok (.iconst 0, 1) := by decide +kernel
theorem dM_walk_15 : decode cM_walk 15 = .ok (.lconst 0, 1) := by decide +kernel
theorem dM_walk_16 : decode cM_walk 16 = .ok (.lastore, 1) := by decide +kernel
theorem dM_walk_17 : decode cM_walk 17 = .ok (.iconst 0, 1) := by decide +kernel
theorem dM_walk_18 : decode cM_walk 18 = .ok (.istore 4, 2) := by decide +kernel
theorem dM_walk_20 : decode cM_walk 20 = .ok (.iload 4, 2) := by decide +kernel
theorem dM_walk_22 : decode cM_walk 22 = .ok (.iconst 4, 1) := by decide +kernel
theorem dM_walk_23 : decode cM_walk 23 = .ok (.if_icmp .ge 64, 3) := by decide +kernel
theorem dM_walk_26 : decode cM_walk 26 = .ok (.aload_n 0, 1) := by decide +kernel
theorem dM_walk_27 : decode cM_walk 27 = .ok (.getfield 29, 3) := by decide +kernel
theorem dM_walk_30 : decode cM_walk 30 = .ok (.iload 4, 2) := by decide +kernel
theorem dM_walk_32 : decode cM_walk 32 = .ok (.lconst 0, 1) := by decide +kernel
theorem dM_walk_33 : decode cM_walk 33 = .ok (.lastore, 1) := by decide +kernel
theorem dM_walk_34 : decode cM_walk 34 = .ok (.aload_n 0, 1) := by decide +kernel
theorem dM_walk_35 : decode cM_walk 35 = .ok (.getfield 32, 3) := by decide +kernel
theorem dM_walk_38 : decode cM_walk 38 = .ok (.iconst 0, 1) := by decide +kernel
theorem dM_walk_39 : decode cM_walk 39 = .ok (.iload 4, 2) := by decide +kernel
theorem dM_walk_41 : decode cM_walk 41 = .ok (.aload_n 0, 1) := by decide +kernel
theorem dM_walk_42 : decode cM_walk 42 = .ok (.iconst 0, 1) := by decide +kernel
theorem dM_walk_43 : decode cM_walk 43 = .ok (.invokevirtual 140, 3) := by decide +kernel
theorem dM_walk_46 : decode cM_walk 46 = .ok (.if_icmp .ge 28, 3) := by decide +kernel
theorem dM_walk_49 : decode cM_walk 49 = .ok (.aload_n 0, 1) := by decide +kernel
theorem dM_walk_50 : decode cM_walk 50 = .ok (.getfield 32, 3) := by decide +kernel
theorem dM_walk_53 : decode cM_walk 53 = .ok (.iconst 0, 1) := by decide +kernel
theorem dM_walk_54 : decode cM_walk 54 = .ok (.laload, 1) := by decide +kernel
theorem dM_walk_55 : decode cM_walk 55 = .ok (.aload_n 0, 1) := by decide +kernel
theorem dM_walk_56 : decode cM_walk 56 = .ok (.getfield 35, 3) := by decide +kernel
theorem dM_walk_59 : decode cM_walk 59 = .ok (.iload 4, 2) := by decide +kernel
theorem dM_walk_61 : decode cM_walk 61 = .ok (.laload, 1) := by decide +kernel
theorem dM_walk_62 : decode cM_walk 62 = .ok (.aload_n 0, 1) := by decide +kernel
theorem dM_walk_63 : decode cM_walk 63 = .ok (.getfield 35, 3) := by decide +kernel
theorem dM_walk_66 : decode cM_walk 66 = .ok (.iload 4, 2) := by decide +kernel
theorem dM_walk_68 : decode cM_walk 68 = .ok (.laload, 1) := by decide +kernel
theorem dM_walk_69 : decode cM_walk 69 = .ok (.lmul, 1) := by decide +kernel
theorem dM_walk_70 : decode cM_walk 70 = .ok (.ladd, 1) := by decide +kernel
theorem dM_walk_71 : decode cM_walk 71 = .ok (.goto 9, 3) := by decide +kernel
theorem dM_walk_74 : decode cM_walk 74 = .ok (.aload_n 0, 1) := by decide +kernel
theorem dM_walk_75 : decode cM_walk 75 = .ok (.getfield 32, 3) := by decide +kernel
theorem dM_walk_78 : decode cM_walk 78 = .ok (.iconst 0, 1) := by decide +kernel
theorem dM_walk_79 : decode cM_walk 79 = .ok (.laload, 1) := by decide +kernel
theorem dM_walk_80 : decode cM_walk 80 = .ok (.lastore, 1) := by decide +kernel
theorem dM_walk_81 : decode cM_walk 81 = .ok (.iinc 4 1, 3) := by decide +kernel
theorem dM_walk_84 : decode cM_walk 84 = .ok (.goto (-64), 3) := by decide +kernel
theorem dM_walk_87 : decode cM_walk 87 = .ok (.aload_n 0, 1) := by decide +kernel
theorem dM_walk_88 : decode cM_walk 88 = .ok (.getfield 32, 3) := by decide +kernel
theorem dM_walk_91 : decode cM_walk 91 = .ok (.iconst 0, 1) := by decide +kernel
theorem dM_walk_92 : decode cM_walk 92 = .ok (.laload, 1) := by decide +kernel
theorem dM_walk_93 : decode cM_walk 93 = .ok (.aload_n 0, 1) := by decide +kernel
theorem dM_walk_94 : decode cM_walk 94 = .ok (.getfield 132, 3) := by decide +kernel
theorem dM_walk_97 : decode cM_walk 97 = .ok (.lcmp, 1) := by decide +kernel
theorem dM_walk_98 : decode cM_walk 98 = .ok (.ifCond .le 4, 3) := by decide +kernel
theorem dM_walk_101 : decode cM_walk 101 = .ok (.return_, 1) := by decide +kernel
theorem dM_walk_102 : decode cM_walk 102 = .ok (.aload_n 0, 1) := by decide +kernel
theorem dM_walk_103 : decode cM_walk 103 = .ok (.getfield 74, 3) := by decide +kernel
theorem dM_walk_106 : decode cM_walk 106 = .ok (.iconst 2, 1) := by decide +kernel
theorem dM_walk_107 : decode cM_walk 107 = .ok (.if_icmp .ge 30, 3) := by decide +kernel
theorem dM_walk_110 : decode cM_walk 110 = .ok (.aload_n 0, 1) := by decide +kernel
theorem dM_walk_111 : decode cM_walk 111 = .ok (.getfield 74, 3) := by decide +kernel
theorem dM_walk_114 : decode cM_walk 114 = .ok (.ifCond .ne 17, 3) := by decide +kernel
theorem dM_walk_117 : decode cM_walk 117 = .ok (.aload_n 0, 1) := by decide +kernel
theorem dM_walk_118 : decode cM_walk 118 = .ok (.iconst 0, 1) := by decide +kernel
theorem dM_walk_119 : decode cM_walk 119 = .ok (.aload_n 0, 1) := by decide +kernel
theorem dM_walk_120 : decode cM_walk 120 = .ok (.getfield 32, 3) := by decide +kernel
theorem dM_walk_123 : decode cM_walk 123 = .ok (.iconst 0, 1) := by decide +kernel
theorem dM_walk_124 : decode cM_walk 124 = .ok (.laload, 1) := by decide +kernel
theorem dM_walk_125 : decode cM_walk 125 = .ok (.invokevirtual 155, 3) := by decide +kernel
theorem dM_walk_128 : decode cM_walk 128 = .ok (.goto 8, 3) := by decide +kernel
theorem dM_walk_131 : decode cM_walk 131 = .ok (.aload_n 0, 1) := by decide +kernel
theorem dM_walk_132 : decode cM_walk 132 = .ok (.iconst 0, 1) := by decide +kernel
theorem dM_walk_133 : decode cM_walk 133 = .ok (.invokevirtual 163, 3) := by decide +kernel
theorem dM_walk_136 : decode cM_walk 136 = .ok (.return_, 1) := by decide +kernel
theorem dM_walk_137 : decode cM_walk 137 = .ok (.iconst 0, 1) := by decide +kernel
theorem dM_walk_138 : decode cM_walk 138 = .ok (.istore 4, 2) := by decide +kernel
theorem dM_walk_140 : decode cM_walk 140 = .ok (.aload_n 0, 1) := by decide +kernel
theorem dM_walk_141 : decode cM_walk 141 = .ok (.iconst 0, 1) := by decide +kernel
theorem dM_walk_142 : decode cM_walk 142 = .ok (.invokevirtual 166, 3) := by decide +kernel
theorem dM_walk_145 : decode cM_walk 145 = .ok (.iload 4, 2) := by decide +kernel
theorem dM_walk_147 : decode cM_walk 147 = .ok (.ifCond .lt 114, 3) := by decide +kernel
theorem dM_walk_150 : decode cM_walk 150 = .ok (.aload_n 0, 1) := by decide +kernel
theorem dM_walk_151 : decode cM_walk 151 = .ok (.getfield 23, 3) := by decide +kernel
theorem dM_walk_154 : decode cM_walk 154 = .ok (.iload 4, 2) := by decide +kernel
theorem dM_walk_156 : decode cM_walk 156 = .ok (.dup2, 1) := by decide +kernel
theorem dM_walk_157 : decode cM_walk 157 = .ok (.laload, 1) := by decide +kernel
theorem dM_walk_158 : decode cM_walk 158 = .ok (.lconst 1, 1) := by decide +kernel
theorem dM_walk_159 : decode cM_walk 159 = .ok (.ladd, 1) := by decide +kernel
theorem dM_walk_160 : decode cM_walk 160 = .ok (.lastore, 1) := by decide +kernel
theorem dM_walk_161 : decode cM_walk 161 = .ok (.aload_n 0, 1) := by decide +kernel
theorem dM_walk_162 : decode cM_walk 162 = .ok (.getfield 23, 3) := by decide +kernel
theorem dM_walk_165 : decode cM_walk 165 = .ok (.iload 4, 2) := by decide +kernel
theorem dM_walk_167 : decode cM_walk 167 = .ok (.laload, 1) := by decide +kernel
theorem dM_walk_168 : decode cM_walk 168 = .ok (.aload_n 0, 1) := by decide +kernel
theorem dM_walk_169 : decode cM_walk 169 = .ok (.getfield 26, 3) := by decide +kernel
theorem dM_walk_172 : decode cM_walk 172 = .ok (.iload 4, 2) := by decide +kernel
theorem dM_walk_174 : decode cM_walk 174 = .ok (.laload, 1) := by decide +kernel
theorem dM_walk_175 : decode cM_walk 175 = .ok (.lcmp, 1) := by decide +kernel
theorem dM_walk_176 : decode cM_walk 176 = .ok (.ifCond .gt 22, 3) := by decide +kernel
theorem dM_walk_179 : decode cM_walk 179 = .ok (.aload_n 0, 1) := by decide +kernel
theorem dM_walk_180 : decode cM_walk 180 = .ok (.getfield 146, 3) := by decide +kernel
theorem dM_walk_183 : decode cM_walk 183 = .ok (.iconst 2, 1) := by decide +kernel
theorem dM_walk_184 : decode cM_walk 184 = .ok (.if_icmp .ne 20, 3) := by decide +kernel
theorem dM_walk_187 : decode cM_walk 187 = .ok (.aload_n 0, 1) := by decide +kernel
theorem dM_walk_188 : decode cM_walk 188 = .ok (.getfield 149, 3) := by decide +kernel
theorem dM_walk_191 : decode cM_walk 191 = .ok (.aload_n 0, 1) := by decide +kernel
theorem dM_walk_192 : decode cM_walk 192 = .ok (.getfield 152, 3) := by decide +kernel
theorem dM_walk_195 : decode cM_walk 195 = .ok (.if_icmp .ne 9, 3) := by decide +kernel
theorem dM_walk_198 : decode cM_walk 198 = .ok (.iinc 4 (-1), 3) := by decide +kernel
theorem dM_walk_201 : decode cM_walk 201 = .ok (.goto (-56), 3) := by decide +kernel
theorem dM_walk_204 : decode cM_walk 204 = .ok (.aload_n 0, 1) := by decide +kernel
theorem dM_walk_205 : decode cM_walk 205 = .ok (.iload 4, 2) := by decide +kernel
theorem dM_walk_207 : decode cM_walk 207 = .ok (.invokevirtual 143, 3) := by decide +kernel
theorem dM_walk_210 : decode cM_walk 210 = .ok (.aload_n 0, 1) := by decide +kernel
theorem dM_walk_211 : decode cM_walk 211 = .ok (.getfield 32, 3) := by decide +kernel
theorem dM_walk_214 : decode cM_walk 214 = .ok (.iload 4, 2) := by decide +kernel
theorem dM_walk_216 : decode cM_walk 216 = .ok (.iconst 1, 1) := by decide +kernel
theorem dM_walk_217 : decode cM_walk 217 = .ok (.iadd, 1) := by decide +kernel
theorem dM_walk_218 : decode cM_walk 218 = .ok (.laload, 1) := by decide +kernel
theorem dM_walk_219 : decode cM_walk 219 = .ok (.aload_n 0, 1) := by decide +kernel
theorem dM_walk_220 : decode cM_walk 220 = .ok (.getfield 132, 3) := by decide +kernel
theorem dM_walk_223 : decode cM_walk 223 = .ok (.lcmp, 1) := by decide +kernel
theorem dM_walk_224 : decode cM_walk 224 = .ok (.ifCond .gt (-79), 3) := by decide +kernel
theorem dM_walk_227 : decode cM_walk 227 = .ok (.iload 4, 2) := by decide +kernel
theorem dM_walk_229 : decode cM_walk 229 = .ok (.aload_n 0, 1) := by decide +kernel
theorem dM_walk_230 : decode cM_walk 230 = .ok (.getfield 74, 3) := by decide +kernel
theorem dM_walk_233 : decode cM_walk 233 = .ok (.iconst 2, 1) := by decide +kernel
theorem dM_walk_234 : decode cM_walk 234 = .ok (.isub, 1) := by decide +kernel
theorem dM_walk_235 : decode cM_walk 235 = .ok (.if_icmp .ne 14, 3) := by decide +kernel
theorem dM_walk_238 : decode cM_walk 238 = .ok (.aload_n 0, 1) := by decide +kernel
theorem dM_walk_239 : decode cM_walk 239 = .ok (.iload 4, 2) := by decide +kernel
theorem dM_walk_241 : decode cM_walk 241 = .ok (.iconst 1, 1) := by decide +kernel
theorem dM_walk_242 : decode cM_walk 242 = .ok (.iadd, 1) := by decide +kernel
theorem dM_walk_243 : decode cM_walk 243 = .ok (.invokevirtual 163, 3) := by decide +kernel
theorem dM_walk_246 : decode cM_walk 246 = .ok (.goto (-101), 3) := by decide +kernel
theorem dM_walk_249 : decode cM_walk 249 = .ok (.iinc 4 1, 3) := by decide +kernel
theorem dM_walk_252 : decode cM_walk 252 = .ok (.aload_n 0, 1) := by decide +kernel
theorem dM_walk_253 : decode cM_walk 253 = .ok (.iload 4, 2) := by decide +kernel
theorem dM_walk_255 : decode cM_walk 255 = .ok (.invokevirtual 166, 3) := by decide +kernel
theorem dM_walk_258 : decode cM_walk 258 = .ok (.goto (-113), 3) := by decide +kernel
theorem dM_walk_261 : decode cM_walk 261 = .ok (.return_, 1) := by decide +kernel
theorem cb_M_finish_M_walk : CB yM_finish cM_finish 8 none rm_M_finish rm_M_walk 1 := ⟨wd709, wd8, by decide +kernel, rfl, rfl, by decide⟩
theorem cb_M_open_M_walk : CB yM_open cM_open 2 (some .int) rm_M_open rm_M_walk 1 := ⟨wd677, wd8, by decide +kernel, rfl, rfl, by decide⟩
theorem cb_M_range_M_walk : CB yM_range cM_range 9 none rm_M_range rm_M_walk 1 := ⟨wd722, wd8, by decide +kernel, rfl, rfl, by decide⟩
theorem cb_M_take_M_walk : CB yM_take cM_take 7 none rm_M_take rm_M_walk 1 := ⟨wd718, wd8, by decide +kernel, rfl, rfl, by decide⟩
theorem cb_M_visit_M_walk : CB yM_visit cM_visit 4 none rm_M_visit rm_M_walk 2 := ⟨wd681, wd8, by decide +kernel, rfl, rfl, by decide⟩
noncomputable def lM_walk_20 (F : Nat)  : Nat → Int32 → MS → Option (MS)
  | 0, _, _ => none
  | n + 1, v4, τ => if (4 : Int32) ≤ v4 then some (τ) else gd (vp_in v4 20) ((M_open F (s_made τ (vp_updL (m_made τ) v4.toNatClampNeg (0 : Int64))) (0 : Int32)).bind (fun r43 => if r43 ≤ v4 then gd (vp_in (0 : Int32) 5) (gd (vp_in (0 : Int32) 5) (lM_walk_20 F  n (v4 + 1) (s_settled (s_made τ (vp_updL (m_made τ) v4.toNatClampNeg (0 : Int64))) (vp_updL (m_settled τ) (0 : Int32).toNatClampNeg ((m_settled τ) (0 : Int32).toNatClampNeg))))) else gd (vp_in (0 : Int32) 5) (gd (vp_in v4 4) (gd (vp_in v4 4) (gd (vp_in (0 : Int32) 5) (lM_walk_20 F  n (v4 + 1) (s_settled (s_made τ (vp_updL (m_made τ) v4.toNatClampNeg (0 : Int64))) (vp_updL (m_settled τ) (0 : Int32).toNatClampNeg (((m_settled τ) (0 : Int32).toNatClampNeg) + (((m_point τ) v4.toNatClampNeg) * ((m_point τ) v4.toNatClampNeg)))))))))))
set_option maxHeartbeats 4000000 in
set_option maxRecDepth 100000 in
theorem lM_walk_20_ok {g : Gm} {κ : ctx} (G : OK g κ RM cM_walk 5 none rm_M_walk) (X : Nat → va_E) (F : Nat)  : ∀ (n : Nat) (v4 : Int32) (τ : MS) (out : MS), lM_walk_20 F  n v4 τ = some out → (J g κ 5 87 [(0, .ref (κ.1 0))] [] (LM κ out X)) → J g κ 5 20 [(0, .ref (κ.1 0)), (4, .int v4)] [] (LM κ τ X) := by
  intro n
  induction n with
  | zero =>
    intro v4 τ
    intro out h
    rw [lM_walk_20] at h
    cases h
  | succ n ih =>
    intro v4 τ out h K
    rw [lM_walk_20] at h
    refine w_iload (pc := 20) (q := 1) G dM_walk_20 rfl ?_
    refine w_iconst (pc := 22) (v := (4 : Int32)) G dM_walk_22 (by decide) ?_
    refine w_icmp_ge (pc := 23) (tgt := 87) G dM_walk_23 (by decide) (fun c23 => ?_) (fun c23 => ?_)
    · have h := if_t c23 h
      obtain rfl := Option.some.inj h
      refine w_sub (lv' := [(0, .ref (κ.1 0))]) [0] rfl ?_
      exact K
    · have h := if_f c23 h
      refine w_aload_n (pc := 26) (q := 0) G dM_walk_26 rfl rfl ?_
      refine w_get (pc := 27) (v := .ref (κ.1 7)) (fs := mfl κ τ) G 0 (by decide) rfl rfl wsM_ok 10 (by decide) wd500 rfl dM_walk_27 ?_
      refine w_iload (pc := 30) (q := 1) G dM_walk_30 rfl ?_
      refine w_lconst (pc := 32) (v := (0 : Int64)) G dM_walk_32 (by decide) ?_
      obtain ⟨i33, h⟩ := gd_some h
      refine w_last (pc := 33) (n := 20) (f := (m_made τ)) (L1 := (LM κ (s_made τ (vp_updL (m_made τ) v4.toNatClampNeg (0 : Int64))) X)) G 7 (by decide) rfl i33 dM_walk_33 (LM_made κ τ X _) ?_
      refine w_aload_n (pc := 34) (q := 0) G dM_walk_34 rfl rfl ?_
      refine w_get (pc := 35) (v := .ref (κ.1 8)) (fs := mfl κ (s_made τ (vp_updL (m_made τ) v4.toNatClampNeg (0 : Int64)))) G 0 (by decide) rfl rfl wsM_ok 11 (by decide) wd501 rfl dM_walk_35 ?_
      refine w_iconst (pc := 38) (v := (0 : Int32)) G dM_walk_38 (by decide) ?_
      refine w_iload (pc := 39) (q := 1) G dM_walk_39 rfl ?_
      refine w_aload_n (pc := 41) (q := 0) G dM_walk_41 rfl rfl ?_
      refine w_iconst (pc := 42) (v := (0 : Int32)) G dM_walk_42 (by decide) ?_
      obtain ⟨r43, e43, h⟩ := bd h
      refine w_callV (pc := 43) (av := [.int (0 : Int32)]) (rest := [.int v4, .int (0 : Int32), .ref (κ.1 8)]) (v := some (.int r43)) (L' := (LM κ (s_made τ (vp_updL (m_made τ) v4.toNatClampNeg (0 : Int64))) X)) (T := TM) (fs := mfl κ (s_made τ (vp_updL (m_made τ) v4.toNatClampNeg (0 : Int64)))) G 0 0 27 (by decide) rfl rfl cb_M_open_M_walk wd676 ws33 wd674 (met_M_open κ X F (s_made τ (vp_updL (m_made τ) v4.toNatClampNeg (0 : Int64))) (0 : Int32) e43) rfl rfl rfl (Nat.le_of_ble_eq_true rfl) dM_walk_43 ?_
      refine w_icmp_ge (pc := 46) (tgt := 74) G dM_walk_46 (by decide) (fun c46 => ?_) (fun c46 => ?_)
      · have h := if_t c46 h
        refine w_aload_n (pc := 74) (q := 0) G dM_walk_74 rfl rfl ?_
        refine w_get (pc := 75) (v := .ref (κ.1 8)) (fs := mfl κ (s_made τ (vp_updL (m_made τ) v4.toNatClampNeg (0 : Int64)))) G 0 (by decide) rfl rfl wsM_ok 11 (by decide) wd501 rfl dM_walk_75 ?_
        refine w_iconst (pc := 78) (v := (0 : Int32)) G dM_walk_78 (by decide) ?_
        obtain ⟨i79, h⟩ := gd_some h
        refine w_lald (pc := 79) (n := 5) (f := (m_settled τ)) G 8 (by decide) rfl i79 dM_walk_79 ?_
        obtain ⟨i80, h⟩ := gd_some h
        refine w_last (pc := 80) (n := 5) (f := (m_settled τ)) (L1 := (LM κ (s_settled (s_made τ (vp_updL (m_made τ) v4.toNatClampNeg (0 : Int64))) (vp_updL (m_settled τ) (0 : Int32).toNatClampNeg ((m_settled τ) (0 : Int32).toNatClampNeg))) X)) G 8 (by decide) rfl i80 dM_walk_80 (LM_settled κ (s_made τ (vp_updL (m_made τ) v4.toNatClampNeg (0 : Int64))) X _) ?_
        refine w_iinc (pc := 81) (q0 := 1) (v := (v4 + 1)) (lv' := [(4, .int (v4 + 1)), (0, .ref (κ.1 0))]) G dM_walk_81 rfl rfl (by decide) rfl ?_
        refine w_goto (pc := 84) (tgt := 20) G dM_walk_84 (by decide) ?_
        refine w_sub (lv' := [(0, .ref (κ.1 0)), (4, .int (v4 + 1))]) [1, 0] rfl ?_
        exact ih (v4 + 1) (s_settled (s_made τ (vp_updL (m_made τ) v4.toNatClampNeg (0 : Int64))) (vp_updL (m_settled τ) (0 : Int32).toNatClampNeg ((m_settled τ) (0 : Int32).toNatClampNeg))) out h K
      · have h := if_f c46 h
        refine w_aload_n (pc := 49) (q := 0) G dM_walk_49 rfl rfl ?_
        refine w_get (pc := 50) (v := .ref (κ.1 8)) (fs := mfl κ (s_made τ (vp_updL (m_made τ) v4.toNatClampNeg (0 : Int64)))) G 0 (by decide) rfl rfl wsM_ok 11 (by decide) wd501 rfl dM_walk_50 ?_
        refine w_iconst (pc := 53) (v := (0 : Int32)) G dM_walk_53 (by decide) ?_
        obtain ⟨i54, h⟩ := gd_some h
        refine w_lald (pc := 54) (n := 5) (f := (m_settled τ)) G 8 (by decide) rfl i54 dM_walk_54 ?_
        refine w_aload_n (pc := 55) (q := 0) G dM_walk_55 rfl rfl ?_
        refine w_get (pc := 56) (v := .ref (κ.1 9)) (fs := mfl κ (s_made τ (vp_updL (m_made τ) v4.toNatClampNeg (0 : Int64)))) G 0 (by decide) rfl rfl wsM_ok 12 (by decide) wd502 rfl dM_walk_56 ?_
        refine w_iload (pc := 59) (q := 1) G dM_walk_59 rfl ?_
        obtain ⟨i61, h⟩ := gd_some h
        refine w_lald (pc := 61) (n := 4) (f := (m_point τ)) G 9 (by decide) rfl i61 dM_walk_61 ?_
        refine w_aload_n (pc := 62) (q := 0) G dM_walk_62 rfl rfl ?_
        refine w_get (pc := 63) (v := .ref (κ.1 9)) (fs := mfl κ (s_made τ (vp_updL (m_made τ) v4.toNatClampNeg (0 : Int64)))) G 0 (by decide) rfl rfl wsM_ok 12 (by decide) wd502 rfl dM_walk_63 ?_
        refine w_iload (pc := 66) (q := 1) G dM_walk_66 rfl ?_
        obtain ⟨i68, h⟩ := gd_some h
        refine w_lald (pc := 68) (n := 4) (f := (m_point τ)) G 9 (by decide) rfl i68 dM_walk_68 ?_
        refine w_lmul (pc := 69) G dM_walk_69 ?_
        refine w_ladd (pc := 70) G dM_walk_70 ?_
        refine w_goto (pc := 71) (tgt := 80) G dM_walk_71 (by decide) ?_
        obtain ⟨i80, h⟩ := gd_some h
        refine w_last (pc := 80) (n := 5) (f := (m_settled τ)) (L1 := (LM κ (s_settled (s_made τ (vp_updL (m_made τ) v4.toNatClampNeg (0 : Int64))) (vp_updL (m_settled τ) (0 : Int32).toNatClampNeg (((m_settled τ) (0 : Int32).toNatClampNeg) + (((m_point τ) v4.toNatClampNeg) * ((m_point τ) v4.toNatClampNeg))))) X)) G 8 (by decide) rfl i80 dM_walk_80 (LM_settled κ (s_made τ (vp_updL (m_made τ) v4.toNatClampNeg (0 : Int64))) X _) ?_
        refine w_iinc (pc := 81) (q0 := 1) (v := (v4 + 1)) (lv' := [(4, .int (v4 + 1)), (0, .ref (κ.1 0))]) G dM_walk_81 rfl rfl (by decide) rfl ?_
        refine w_goto (pc := 84) (tgt := 20) G dM_walk_84 (by decide) ?_
        refine w_sub (lv' := [(0, .ref (κ.1 0)), (4, .int (v4 + 1))]) [1, 0] rfl ?_
        exact ih (v4 + 1) (s_settled (s_made τ (vp_updL (m_made τ) v4.toNatClampNeg (0 : Int64))) (vp_updL (m_settled τ) (0 : Int32).toNatClampNeg (((m_settled τ) (0 : Int32).toNatClampNeg) + (((m_point τ) v4.toNatClampNeg) * ((m_point τ) v4.toNatClampNeg))))) out h K
noncomputable def lM_walk_145 (F : Nat)  : Nat → Int32 → MS → Option (MS)
  | 0, _, _ => none
  | n + 1, v4, τ => if v4 < 0 then some (τ) else gd (vp_in v4 4) (gd (vp_in v4 4) (gd (vp_in v4 4) (gd (vp_in v4 4) (if ((m_last τ) v4.toNatClampNeg) < ((vp_updL (m_multiple τ) v4.toNatClampNeg (((m_multiple τ) v4.toNatClampNeg) + (1 : Int64))) v4.toNatClampNeg) then lM_walk_145 F  n (v4 + (-1)) (s_multiple τ (vp_updL (m_multiple τ) v4.toNatClampNeg (((m_multiple τ) v4.toNatClampNeg) + (1 : Int64)))) else if (m_mode τ) = (2 : Int32) then if (m_spanned τ) = (m_wanted τ) then lM_walk_145 F  n (v4 + (-1)) (s_multiple τ (vp_updL (m_multiple τ) v4.toNatClampNeg (((m_multiple τ) v4.toNatClampNeg) + (1 : Int64)))) else (M_take F (s_multiple τ (vp_updL (m_multiple τ) v4.toNatClampNeg (((m_multiple τ) v4.toNatClampNeg) + (1 : Int64)))) v4).bind (fun r207 => gd (vp_in (v4 + (1 : Int32)) 5) (if (m_limit r207) < ((m_settled r207) (v4 + (1 : Int32)).toNatClampNeg) then lM_walk_145 F  n v4 r207 else if v4 = ((m_rows r207) - (2 : Int32)) then (M_finish F r207 (v4 + (1 : Int32))).bind (fun r243 => lM_walk_145 F  n v4 r243) else (M_range F r207 (v4 + 1)).bind (fun r255 => lM_walk_145 F  n (v4 + 1) r255))) else (M_take F (s_multiple τ (vp_updL (m_multiple τ) v4.toNatClampNeg (((m_multiple τ) v4.toNatClampNeg) + (1 : Int64)))) v4).bind (fun r207 => gd (vp_in (v4 + (1 : Int32)) 5) (if (m_limit r207) < ((m_settled r207) (v4 + (1 : Int32)).toNatClampNeg) then lM_walk_145 F  n v4 r207 else if v4 = ((m_rows r207) - (2 : Int32)) then (M_finish F r207 (v4 + (1 : Int32))).bind (fun r243 => lM_walk_145 F  n v4 r243) else (M_range F r207 (v4 + 1)).bind (fun r255 => lM_walk_145 F  n (v4 + 1) r255)))))))
set_option maxHeartbeats 4000000 in
set_option maxRecDepth 100000 in
theorem lM_walk_145_ok {g : Gm} {κ : ctx} (G : OK g κ RM cM_walk 5 none rm_M_walk) (X : Nat → va_E) (F : Nat)  : ∀ (n : Nat) (v4 : Int32) (τ : MS) (out : MS), lM_walk_145 F  n v4 τ = some out → (J g κ 5 261 [] [] (LM κ out X)) → J g κ 5 145 [(0, .ref (κ.1 0)), (4, .int v4)] [] (LM κ τ X) := by
  intro n
  induction n with
  | zero =>
    intro v4 τ
    intro out h
    rw [lM_walk_145] at h
    cases h
  | succ n ih =>
    intro v4 τ out h K
    rw [lM_walk_145] at h
    refine w_iload (pc := 145) (q := 1) G dM_walk_145 rfl ?_
    refine w_if_lt (pc := 147) (tgt := 261) G dM_walk_147 (by decide) (fun c147 => ?_) (fun c147 => ?_)
    · have h := if_t c147 h
      obtain rfl := Option.some.inj h
      refine w_sub (lv' := []) [] rfl ?_
      exact K
    · have h := if_f c147 h
      refine w_aload_n (pc := 150) (q := 0) G dM_walk_150 rfl rfl ?_
      refine w_get (pc := 151) (v := .ref (κ.1 5)) (fs := mfl κ τ) G 0 (by decide) rfl rfl wsM_ok 8 (by decide) wd498 rfl dM_walk_151 ?_
      refine w_iload (pc := 154) (q := 1) G dM_walk_154 rfl ?_
      refine w_dup2_11 (pc := 156) G dM_walk_156 rfl rfl ?_
      obtain ⟨i157, h⟩ := gd_some h
      refine w_lald (pc := 157) (n := 4) (f := (m_multiple τ)) G 5 (by decide) rfl i157 dM_walk_157 ?_
      refine w_lconst (pc := 158) (v := (1 : Int64)) G dM_walk_158 (by decide) ?_
      refine w_ladd (pc := 159) G dM_walk_159 ?_
      obtain ⟨i160, h⟩ := gd_some h
      refine w_last (pc := 160) (n := 4) (f := (m_multiple τ)) (L1 := (LM κ (s_multiple τ (vp_updL (m_multiple τ) v4.toNatClampNeg (((m_multiple τ) v4.toNatClampNeg) + (1 : Int64)))) X)) G 5 (by decide) rfl i160 dM_walk_160 (LM_multiple κ τ X _) ?_
      refine w_aload_n (pc := 161) (q := 0) G dM_walk_161 rfl rfl ?_
      refine w_get (pc := 162) (v := .ref (κ.1 5)) (fs := mfl κ (s_multiple τ (vp_updL (m_multiple τ) v4.toNatClampNeg (((m_multiple τ) v4.toNatClampNeg) + (1 : Int64))))) G 0 (by decide) rfl rfl wsM_ok 8 (by decide) wd498 rfl dM_walk_162 ?_
      refine w_iload (pc := 165) (q := 1) G dM_walk_165 rfl ?_
      obtain ⟨i167, h⟩ := gd_some h
      refine w_lald (pc := 167) (n := 4) (f := vp_updL (m_multiple τ) v4.toNatClampNeg (((m_multiple τ) v4.toNatClampNeg) + (1 : Int64))) G 5 (by decide) rfl i167 dM_walk_167 ?_
      refine w_aload_n (pc := 168) (q := 0) G dM_walk_168 rfl rfl ?_
      refine w_get (pc := 169) (v := .ref (κ.1 6)) (fs := mfl κ (s_multiple τ (vp_updL (m_multiple τ) v4.toNatClampNeg (((m_multiple τ) v4.toNatClampNeg) + (1 : Int64))))) G 0 (by decide) rfl rfl wsM_ok 9 (by decide) wd499 rfl dM_walk_169 ?_
      refine w_iload (pc := 172) (q := 1) G dM_walk_172 rfl ?_
      obtain ⟨i174, h⟩ := gd_some h
      refine w_lald (pc := 174) (n := 4) (f := (m_last τ)) G 6 (by decide) rfl i174 dM_walk_174 ?_
      refine w_lc_gt (pc := 175) (tgt := 198) G dM_walk_175 dM_walk_176 (by decide) (fun c175 => ?_) (fun c175 => ?_)
      · have h := if_t c175 h
        refine w_iinc (pc := 198) (q0 := 1) (v := (v4 + (-1))) (lv' := [(4, .int (v4 + (-1))), (0, .ref (κ.1 0))]) G dM_walk_198 rfl rfl (by decide) rfl ?_
        refine w_goto (pc := 201) (tgt := 145) G dM_walk_201 (by decide) ?_
        refine w_sub (lv' := [(0, .ref (κ.1 0)), (4, .int (v4 + (-1)))]) [1, 0] rfl ?_
        exact ih (v4 + (-1)) (s_multiple τ (vp_updL (m_multiple τ) v4.toNatClampNeg (((m_multiple τ) v4.toNatClampNeg) + (1 : Int64)))) out h K
      · have h := if_f c175 h
        refine w_aload_n (pc := 179) (q := 0) G dM_walk_179 rfl rfl ?_
        refine w_get (pc := 180) (v := .int (m_mode τ)) (fs := mfl κ (s_multiple τ (vp_updL (m_multiple τ) v4.toNatClampNeg (((m_multiple τ) v4.toNatClampNeg) + (1 : Int64))))) G 0 (by decide) rfl rfl wsM_ok 14 (by decide) wd504 rfl dM_walk_180 ?_
        refine w_iconst (pc := 183) (v := (2 : Int32)) G dM_walk_183 (by decide) ?_
        refine w_icmp_ne (pc := 184) (tgt := 204) G dM_walk_184 (by decide) (fun c184 => ?_) (fun c184 => ?_)
        · have h := if_t c184 h
          refine w_aload_n (pc := 187) (q := 0) G dM_walk_187 rfl rfl ?_
          refine w_get (pc := 188) (v := .int (m_spanned τ)) (fs := mfl κ (s_multiple τ (vp_updL (m_multiple τ) v4.toNatClampNeg (((m_multiple τ) v4.toNatClampNeg) + (1 : Int64))))) G 0 (by decide) rfl rfl wsM_ok 21 (by decide) wd511 rfl dM_walk_188 ?_
          refine w_aload_n (pc := 191) (q := 0) G dM_walk_191 rfl rfl ?_
          refine w_get (pc := 192) (v := .int (m_wanted τ)) (fs := mfl κ (s_multiple τ (vp_updL (m_multiple τ) v4.toNatClampNeg (((m_multiple τ) v4.toNatClampNeg) + (1 : Int64))))) G 0 (by decide) rfl rfl wsM_ok 20 (by decide) wd510 rfl dM_walk_192 ?_
          refine w_icmp_ne (pc := 195) (tgt := 204) G dM_walk_195 (by decide) (fun c195 => ?_) (fun c195 => ?_)
          · have h := if_t c195 h
            refine w_iinc (pc := 198) (q0 := 1) (v := (v4 + (-1))) (lv' := [(4, .int (v4 + (-1))), (0, .ref (κ.1 0))]) G dM_walk_198 rfl rfl (by decide) rfl ?_
            refine w_goto (pc := 201) (tgt := 145) G dM_walk_201 (by decide) ?_
            refine w_sub (lv' := [(0, .ref (κ.1 0)), (4, .int (v4 + (-1)))]) [1, 0] rfl ?_
            exact ih (v4 + (-1)) (s_multiple τ (vp_updL (m_multiple τ) v4.toNatClampNeg (((m_multiple τ) v4.toNatClampNeg) + (1 : Int64)))) out h K
          · have h := if_f c195 h
            refine w_aload_n (pc := 204) (q := 0) G dM_walk_204 rfl rfl ?_
            refine w_iload (pc := 205) (q := 1) G dM_walk_205 rfl ?_
            obtain ⟨r207, e207, h⟩ := bd h
            refine w_callV (pc := 207) (av := [.int v4]) (rest := []) (v := none) (L' := (LM κ r207 X)) (T := TM) (fs := mfl κ (s_multiple τ (vp_updL (m_multiple τ) v4.toNatClampNeg (((m_multiple τ) v4.toNatClampNeg) + (1 : Int64))))) G 0 0 27 (by decide) rfl rfl cb_M_take_M_walk wd717 ws43 wd715 (met_M_take κ X F (s_multiple τ (vp_updL (m_multiple τ) v4.toNatClampNeg (((m_multiple τ) v4.toNatClampNeg) + (1 : Int64)))) v4 e207) rfl rfl rfl (Nat.le_of_ble_eq_true rfl) dM_walk_207 ?_
            refine w_aload_n (pc := 210) (q := 0) G dM_walk_210 rfl rfl ?_
            refine w_get (pc := 211) (v := .ref (κ.1 8)) (fs := mfl κ r207) G 0 (by decide) rfl rfl wsM_ok 11 (by decide) wd501 rfl dM_walk_211 ?_
            refine w_iload (pc := 214) (q := 1) G dM_walk_214 rfl ?_
            refine w_iconst (pc := 216) (v := (1 : Int32)) G dM_walk_216 (by decide) ?_
            refine w_iadd (pc := 217) G dM_walk_217 ?_
            obtain ⟨i218, h⟩ := gd_some h
            refine w_lald (pc := 218) (n := 5) (f := (m_settled r207)) G 8 (by decide) rfl i218 dM_walk_218 ?_
            refine w_aload_n (pc := 219) (q := 0) G dM_walk_219 rfl rfl ?_
            refine w_get (pc := 220) (v := .long (m_limit r207)) (fs := mfl κ r207) G 0 (by decide) rfl rfl wsM_ok 13 (by decide) wd503 rfl dM_walk_220 ?_
            refine w_lc_gt (pc := 223) (tgt := 145) G dM_walk_223 dM_walk_224 (by decide) (fun c223 => ?_) (fun c223 => ?_)
            · have h := if_t c223 h
              refine w_sub (lv' := [(0, .ref (κ.1 0)), (4, .int v4)]) [0, 1] rfl ?_
              exact ih v4 r207 out h K
            · have h := if_f c223 h
              refine w_iload (pc := 227) (q := 1) G dM_walk_227 rfl ?_
              refine w_aload_n (pc := 229) (q := 0) G dM_walk_229 rfl rfl ?_
              refine w_get (pc := 230) (v := .int (m_rows r207)) (fs := mfl κ r207) G 0 (by decide) rfl rfl wsM_ok 4 (by decide) wd494 rfl dM_walk_230 ?_
              refine w_iconst (pc := 233) (v := (2 : Int32)) G dM_walk_233 (by decide) ?_
              refine w_isub (pc := 234) G dM_walk_234 ?_
              refine w_icmp_ne (pc := 235) (tgt := 249) G dM_walk_235 (by decide) (fun c235 => ?_) (fun c235 => ?_)
              · have h := if_t c235 h
                refine w_aload_n (pc := 238) (q := 0) G dM_walk_238 rfl rfl ?_
                refine w_iload (pc := 239) (q := 1) G dM_walk_239 rfl ?_
                refine w_iconst (pc := 241) (v := (1 : Int32)) G dM_walk_241 (by decide) ?_
                refine w_iadd (pc := 242) G dM_walk_242 ?_
                obtain ⟨r243, e243, h⟩ := bd h
                refine w_callV (pc := 243) (av := [.int (v4 + (1 : Int32))]) (rest := []) (v := none) (L' := (LM κ r243 X)) (T := TM) (fs := mfl κ r207) G 0 0 27 (by decide) rfl rfl cb_M_finish_M_walk wd708 ws41 wd706 (met_M_finish κ X F r207 (v4 + (1 : Int32)) e243) rfl rfl rfl (Nat.le_of_ble_eq_true rfl) dM_walk_243 ?_
                refine w_goto (pc := 246) (tgt := 145) G dM_walk_246 (by decide) ?_
                refine w_sub (lv' := [(0, .ref (κ.1 0)), (4, .int v4)]) [0, 1] rfl ?_
                exact ih v4 r243 out h K
              · have h := if_f c235 h
                refine w_iinc (pc := 249) (q0 := 1) (v := (v4 + 1)) (lv' := [(4, .int (v4 + 1)), (0, .ref (κ.1 0))]) G dM_walk_249 rfl rfl (by decide) rfl ?_
                refine w_aload_n (pc := 252) (q := 1) G dM_walk_252 rfl rfl ?_
                refine w_iload (pc := 253) (q := 0) G dM_walk_253 rfl ?_
                obtain ⟨r255, e255, h⟩ := bd h
                refine w_callV (pc := 255) (av := [.int (v4 + 1)]) (rest := []) (v := none) (L' := (LM κ r255 X)) (T := TM) (fs := mfl κ r207) G 0 0 27 (by decide) rfl rfl cb_M_range_M_walk wd721 ws44 wd719 (met_M_range κ X F r207 (v4 + 1) e255) rfl rfl rfl (Nat.le_of_ble_eq_true rfl) dM_walk_255 ?_
                refine w_goto (pc := 258) (tgt := 145) G dM_walk_258 (by decide) ?_
                refine w_sub (lv' := [(0, .ref (κ.1 0)), (4, .int (v4 + 1))]) [1, 0] rfl ?_
                exact ih (v4 + 1) r255 out h K
        · have h := if_f c184 h
          refine w_aload_n (pc := 204) (q := 0) G dM_walk_204 rfl rfl ?_
          refine w_iload (pc := 205) (q := 1) G dM_walk_205 rfl ?_
          obtain ⟨r207, e207, h⟩ := bd h
          refine w_callV (pc := 207) (av := [.int v4]) (rest := []) (v := none) (L' := (LM κ r207 X)) (T := TM) (fs := mfl κ (s_multiple τ (vp_updL (m_multiple τ) v4.toNatClampNeg (((m_multiple τ) v4.toNatClampNeg) + (1 : Int64))))) G 0 0 27 (by decide) rfl rfl cb_M_take_M_walk wd717 ws43 wd715 (met_M_take κ X F (s_multiple τ (vp_updL (m_multiple τ) v4.toNatClampNeg (((m_multiple τ) v4.toNatClampNeg) + (1 : Int64)))) v4 e207) rfl rfl rfl (Nat.le_of_ble_eq_true rfl) dM_walk_207 ?_
          refine w_aload_n (pc := 210) (q := 0) G dM_walk_210 rfl rfl ?_
          refine w_get (pc := 211) (v := .ref (κ.1 8)) (fs := mfl κ r207) G 0 (by decide) rfl rfl wsM_ok 11 (by decide) wd501 rfl dM_walk_211 ?_
          refine w_iload (pc := 214) (q := 1) G dM_walk_214 rfl ?_
          refine w_iconst (pc := 216) (v := (1 : Int32)) G dM_walk_216 (by decide) ?_
          refine w_iadd (pc := 217) G dM_walk_217 ?_
          obtain ⟨i218, h⟩ := gd_some h
          refine w_lald (pc := 218) (n := 5) (f := (m_settled r207)) G 8 (by decide) rfl i218 dM_walk_218 ?_
          refine w_aload_n (pc := 219) (q := 0) G dM_walk_219 rfl rfl ?_
          refine w_get (pc := 220) (v := .long (m_limit r207)) (fs := mfl κ r207) G 0 (by decide) rfl rfl wsM_ok 13 (by decide) wd503 rfl dM_walk_220 ?_
          refine w_lc_gt (pc := 223) (tgt := 145) G dM_walk_223 dM_walk_224 (by decide) (fun c223 => ?_) (fun c223 => ?_)
          · have h := if_t c223 h
            refine w_sub (lv' := [(0, .ref (κ.1 0)), (4, .int v4)]) [0, 1] rfl ?_
            exact ih v4 r207 out h K
          · have h := if_f c223 h
            refine w_iload (pc := 227) (q := 1) G dM_walk_227 rfl ?_
            refine w_aload_n (pc := 229) (q := 0) G dM_walk_229 rfl rfl ?_
            refine w_get (pc := 230) (v := .int (m_rows r207)) (fs := mfl κ r207) G 0 (by decide) rfl rfl wsM_ok 4 (by decide) wd494 rfl dM_walk_230 ?_
            refine w_iconst (pc := 233) (v := (2 : Int32)) G dM_walk_233 (by decide) ?_
            refine w_isub (pc := 234) G dM_walk_234 ?_
            refine w_icmp_ne (pc := 235) (tgt := 249) G dM_walk_235 (by decide) (fun c235 => ?_) (fun c235 => ?_)
            · have h := if_t c235 h
              refine w_aload_n (pc := 238) (q := 0) G dM_walk_238 rfl rfl ?_
              refine w_iload (pc := 239) (q := 1) G dM_walk_239 rfl ?_
              refine w_iconst (pc := 241) (v := (1 : Int32)) G dM_walk_241 (by decide) ?_
              refine w_iadd (pc := 242) G dM_walk_242 ?_
              obtain ⟨r243, e243, h⟩ := bd h
              refine w_callV (pc := 243) (av := [.int (v4 + (1 : Int32))]) (rest := []) (v := none) (L' := (LM κ r243 X)) (T := TM) (fs := mfl κ r207) G 0 0 27 (by decide) rfl rfl cb_M_finish_M_walk wd708 ws41 wd706 (met_M_finish κ X F r207 (v4 + (1 : Int32)) e243) rfl rfl rfl (Nat.le_of_ble_eq_true rfl) dM_walk_243 ?_
              refine w_goto (pc := 246) (tgt := 145) G dM_walk_246 (by decide) ?_
              refine w_sub (lv' := [(0, .ref (κ.1 0)), (4, .int v4)]) [0, 1] rfl ?_
              exact ih v4 r243 out h K
            · have h := if_f c235 h
              refine w_iinc (pc := 249) (q0 := 1) (v := (v4 + 1)) (lv' := [(4, .int (v4 + 1)), (0, .ref (κ.1 0))]) G dM_walk_249 rfl rfl (by decide) rfl ?_
              refine w_aload_n (pc := 252) (q := 1) G dM_walk_252 rfl rfl ?_
              refine w_iload (pc := 253) (q := 0) G dM_walk_253 rfl ?_
              obtain ⟨r255, e255, h⟩ := bd h
              refine w_callV (pc := 255) (av := [.int (v4 + 1)]) (rest := []) (v := none) (L' := (LM κ r255 X)) (T := TM) (fs := mfl κ r207) G 0 0 27 (by decide) rfl rfl cb_M_range_M_walk wd721 ws44 wd719 (met_M_range κ X F r207 (v4 + 1) e255) rfl rfl rfl (Nat.le_of_ble_eq_true rfl) dM_walk_255 ?_
              refine w_goto (pc := 258) (tgt := 145) G dM_walk_258 (by decide) ?_
              refine w_sub (lv' := [(0, .ref (κ.1 0)), (4, .int (v4 + 1))]) [1, 0] rfl ?_
              exact ih (v4 + 1) r255 out h K
noncomputable def M_walk (F : Nat) (τ : MS) (v1 : Int32) (v2 : Int64) : Option (MS) := gd (vp_in (0 : Int32) 5) ((lM_walk_20 F  F (0 : Int32) (s_mode (s_limit (s_settled τ (vp_updL (m_settled τ) (0 : Int32).toNatClampNeg (0 : Int64))) (v2)) (v1))).bind (fun o20_6 => gd (vp_in (0 : Int32) 5) (if ((m_settled o20_6) (0 : Int32).toNatClampNeg) ≤ (m_limit o20_6) then if (2 : Int32) ≤ (m_rows o20_6) then (M_range F o20_6 (0 : Int32)).bind (fun r142 => (lM_walk_145 F  F (0 : Int32) r142).bind (fun o145_25 => some o145_25)) else if (m_rows o20_6) = 0 then gd (vp_in (0 : Int32) 5) ((M_visit F o20_6 (0 : Int32) ((m_settled o20_6) (0 : Int32).toNatClampNeg)).bind (fun r125 => some r125)) else (M_finish F o20_6 (0 : Int32)).bind (fun r133 => some r133) else some o20_6)))
set_option maxHeartbeats 4000000 in
set_option maxRecDepth 100000 in
theorem met_M_walk (κ : ctx) (X : Nat → va_E) (F : Nat) (τ : MS) (v1 : Int32) (v2 : Int64) {out : MS} (h : M_walk F τ v1 v2 = some out) : Mt yM_walk cM_walk 5 none rm_M_walk κ [.ref (κ.1 0), .int v1, .long v2] (LM κ τ X) none (LM κ out X) := by
  refine Mt.of (by decide) (Nat.le_of_ble_eq_true rfl) ?_
  intro g G Fh
  unfold M_walk at h
  show J g κ 5 0 [(0, .ref (κ.1 0)), (1, .int v1), (2, .long v2)] [] (LM κ τ X)
  refine w_aload_n (pc := 0) (q := 0) G dM_walk_0 rfl rfl ?_
  refine w_iload_n (pc := 1) (q := 1) G dM_walk_1 rfl rfl ?_
  refine w_put (pc := 2) (fs := mfl κ τ) (L1 := (LM κ (s_mode τ (v1)) X)) G 0 (by decide) rfl rfl wsM_ok tyM tyM_ok nmM 14 (by decide) wd504 rfl rfl rfl (Nat.le_of_ble_eq_true rfl) dM_walk_2 (LMf_mode κ τ X _) ?_
  refine w_aload_n (pc := 5) (q := 0) G dM_walk_5 rfl rfl ?_
  refine w_lload_n (pc := 6) (q := 2) G dM_walk_6 rfl rfl ?_
  refine w_put (pc := 7) (fs := mfl κ (s_mode τ (v1))) (L1 := (LM κ (s_mode (s_limit τ (v2)) (v1)) X)) G 0 (by decide) rfl rfl wsM_ok tyM tyM_ok nmM 13 (by decide) wd503 rfl rfl rfl (Nat.le_of_ble_eq_true rfl) dM_walk_7 (LMf_limit κ (s_mode τ (v1)) X _) ?_
  refine w_aload_n (pc := 10) (q := 0) G dM_walk_10 rfl rfl ?_
  refine w_get (pc := 11) (v := .ref (κ.1 8)) (fs := mfl κ (s_mode (s_limit τ (v2)) (v1))) G 0 (by decide) rfl rfl wsM_ok 11 (by decide) wd501 rfl dM_walk_11 ?_
  refine w_iconst (pc := 14) (v := (0 : Int32)) G dM_walk_14 (by decide) ?_
  refine w_lconst (pc := 15) (v := (0 : Int64)) G dM_walk_15 (by decide) ?_
  obtain ⟨i16, h⟩ := gd_some h
  refine w_last (pc := 16) (n := 5) (f := (m_settled τ)) (L1 := (LM κ (s_mode (s_limit (s_settled τ (vp_updL (m_settled τ) (0 : Int32).toNatClampNeg (0 : Int64))) (v2)) (v1)) X)) G 8 (by decide) rfl i16 dM_walk_16 (LM_settled κ (s_mode (s_limit τ (v2)) (v1)) X _) ?_
  refine w_iconst (pc := 17) (v := (0 : Int32)) G dM_walk_17 (by decide) ?_
  refine w_istore (pc := 18) (lv' := [(4, .int (0 : Int32)), (0, .ref (κ.1 0)), (1, .int v1), (2, .long v2)]) G dM_walk_18 (by decide) rfl ?_
  refine w_sub (lv' := [(0, .ref (κ.1 0)), (4, .int (0 : Int32))]) [1, 0] rfl ?_
  obtain ⟨o20_6, eo20_6, h⟩ := bd h
  refine lM_walk_20_ok G X F  F (0 : Int32) (s_mode (s_limit (s_settled τ (vp_updL (m_settled τ) (0 : Int32).toNatClampNeg (0 : Int64))) (v2)) (v1)) o20_6 eo20_6 ?_
  refine w_aload_n (pc := 87) (q := 0) G dM_walk_87 rfl rfl ?_
  refine w_get (pc := 88) (v := .ref (κ.1 8)) (fs := mfl κ o20_6) G 0 (by decide) rfl rfl wsM_ok 11 (by decide) wd501 rfl dM_walk_88 ?_
  refine w_iconst (pc := 91) (v := (0 : Int32)) G dM_walk_91 (by decide) ?_
  obtain ⟨i92, h⟩ := gd_some h
  refine w_lald (pc := 92) (n := 5) (f := (m_settled o20_6)) G 8 (by decide) rfl i92 dM_walk_92 ?_
  refine w_aload_n (pc := 93) (q := 0) G dM_walk_93 rfl rfl ?_
  refine w_get (pc := 94) (v := .long (m_limit o20_6)) (fs := mfl κ o20_6) G 0 (by decide) rfl rfl wsM_ok 13 (by decide) wd503 rfl dM_walk_94 ?_
  refine w_lc_le (pc := 97) (tgt := 102) G dM_walk_97 dM_walk_98 (by decide) (fun c97 => ?_) (fun c97 => ?_)
  · have h := if_t c97 h
    refine w_aload_n (pc := 102) (q := 0) G dM_walk_102 rfl rfl ?_
    refine w_get (pc := 103) (v := .int (m_rows o20_6)) (fs := mfl κ o20_6) G 0 (by decide) rfl rfl wsM_ok 4 (by decide) wd494 rfl dM_walk_103 ?_
    refine w_iconst (pc := 106) (v := (2 : Int32)) G dM_walk_106 (by decide) ?_
    refine w_icmp_ge (pc := 107) (tgt := 137) G dM_walk_107 (by decide) (fun c107 => ?_) (fun c107 => ?_)
    · have h := if_t c107 h
      refine w_iconst (pc := 137) (v := (0 : Int32)) G dM_walk_137 (by decide) ?_
      refine w_istore (pc := 138) (lv' := [(4, .int (0 : Int32)), (0, .ref (κ.1 0))]) G dM_walk_138 (by decide) rfl ?_
      refine w_aload_n (pc := 140) (q := 1) G dM_walk_140 rfl rfl ?_
      refine w_iconst (pc := 141) (v := (0 : Int32)) G dM_walk_141 (by decide) ?_
      obtain ⟨r142, e142, h⟩ := bd h
      refine w_callV (pc := 142) (av := [.int (0 : Int32)]) (rest := []) (v := none) (L' := (LM κ r142 X)) (T := TM) (fs := mfl κ o20_6) G 0 0 27 (by decide) rfl rfl cb_M_range_M_walk wd721 ws44 wd719 (met_M_range κ X F o20_6 (0 : Int32) e142) rfl rfl rfl (Nat.le_of_ble_eq_true rfl) dM_walk_142 ?_
      refine w_sub (lv' := [(0, .ref (κ.1 0)), (4, .int (0 : Int32))]) [1, 0] rfl ?_
      obtain ⟨o145_25, eo145_25, h⟩ := bd h
      refine lM_walk_145_ok G X F  F (0 : Int32) r142 o145_25 eo145_25 ?_
      obtain rfl := Option.some.inj h
      exact w_vret (pc := 261) G dM_walk_261 Fh
    · have h := if_f c107 h
      refine w_aload_n (pc := 110) (q := 0) G dM_walk_110 rfl rfl ?_
      refine w_get (pc := 111) (v := .int (m_rows o20_6)) (fs := mfl κ o20_6) G 0 (by decide) rfl rfl wsM_ok 4 (by decide) wd494 rfl dM_walk_111 ?_
      refine w_if_ne (pc := 114) (tgt := 131) G dM_walk_114 (by decide) (fun c114 => ?_) (fun c114 => ?_)
      · have h := if_t c114 h
        refine w_aload_n (pc := 117) (q := 0) G dM_walk_117 rfl rfl ?_
        refine w_iconst (pc := 118) (v := (0 : Int32)) G dM_walk_118 (by decide) ?_
        refine w_aload_n (pc := 119) (q := 0) G dM_walk_119 rfl rfl ?_
        refine w_get (pc := 120) (v := .ref (κ.1 8)) (fs := mfl κ o20_6) G 0 (by decide) rfl rfl wsM_ok 11 (by decide) wd501 rfl dM_walk_120 ?_
        refine w_iconst (pc := 123) (v := (0 : Int32)) G dM_walk_123 (by decide) ?_
        obtain ⟨i124, h⟩ := gd_some h
        refine w_lald (pc := 124) (n := 5) (f := (m_settled o20_6)) G 8 (by decide) rfl i124 dM_walk_124 ?_
        obtain ⟨r125, e125, h⟩ := bd h
        refine w_callV (pc := 125) (av := [.int (0 : Int32), .long ((m_settled o20_6) (0 : Int32).toNatClampNeg)]) (rest := []) (v := none) (L' := (LM κ r125 X)) (T := TM) (fs := mfl κ o20_6) G 0 0 27 (by decide) rfl rfl cb_M_visit_M_walk wd680 ws34 wd678 (met_M_visit κ X F o20_6 (0 : Int32) ((m_settled o20_6) (0 : Int32).toNatClampNeg) e125) rfl rfl rfl (Nat.le_of_ble_eq_true rfl) dM_walk_125 ?_
        refine w_goto (pc := 128) (tgt := 136) G dM_walk_128 (by decide) ?_
        obtain rfl := Option.some.inj h
        exact w_vret (pc := 136) G dM_walk_136 Fh
      · have h := if_f c114 h
        refine w_aload_n (pc := 131) (q := 0) G dM_walk_131 rfl rfl ?_
        refine w_iconst (pc := 132) (v := (0 : Int32)) G dM_walk_132 (by decide) ?_
        obtain ⟨r133, e133, h⟩ := bd h
        refine w_callV (pc := 133) (av := [.int (0 : Int32)]) (rest := []) (v := none) (L' := (LM κ r133 X)) (T := TM) (fs := mfl κ o20_6) G 0 0 27 (by decide) rfl rfl cb_M_finish_M_walk wd708 ws41 wd706 (met_M_finish κ X F o20_6 (0 : Int32) e133) rfl rfl rfl (Nat.le_of_ble_eq_true rfl) dM_walk_133 ?_
        obtain rfl := Option.some.inj h
        exact w_vret (pc := 136) G dM_walk_136 Fh
  · have h := if_f c97 h
    obtain rfl := Option.some.inj h
    exact w_vret (pc := 101) G dM_walk_101 Fh
def rm_M_count : Room := { frames := 7, cells := 0, slots := 0, locals := 179 }
theorem dM_count_0 : decode cM_count 0 = .ok (.iload_n 1, 1) := by decide +kernel
theorem dM_count_1 : decode cM_count 1 = .ok (.ifCond .lt 9, 3) := by decide +kernel
theorem dM_count_4 : decode cM_count 4 = .ok (.iload_n 1, 1) := by decide +kernel
theorem dM_count_5 : decode cM_count 5 = .ok (.bipush 40, 2) := by decide +kernel
theorem dM_count_7 : decode cM_count 7 = .ok (.if_icmp .le 5, 3) := by decide +kernel
theorem dM_count_10 : decode cM_count 10 = .ok (.iconst (-1), 1) := by decide +kernel
theorem dM_count_11 : decode cM_count 11 = .ok (.ireturn, 1) := by decide +kernel
theorem dM_count_12 : decode cM_count 12 = .ok (.aload_n 0, 1) := by decide +kernel
theorem dM_count_13 : decode cM_count 13 = .ok (.iconst (-1), 1) := by decide +kernel
theorem dM_count_14 : decode cM_count 14 = .ok (.invokevirtual 107, 3) := by decide +kernel
theorem dM_count_17 : decode cM_count 17 = .ok (.aload_n 0, 1) := by decide +kernel
theorem dM_count_18 : decode cM_count 18 = .ok (.invokevirtual 181, 3) := by decide +kernel
theorem dM_count_21 : decode cM_count 21 = .ok (.aload_n 0, 1) := by decide +kernel
theorem dM_count_22 : decode cM_count 22 = .ok (.iconst 0, 1) := by decide +kernel
theorem dM_count_23 : decode cM_count 23 = .ok (.putfield 169, 3) := by decide +kernel
theorem dM_count_26 : decode cM_count 26 = .ok (.aload_n 0, 1) := by decide +kernel
theorem dM_count_27 : decode cM_count 27 = .ok (.iconst 0, 1) := by decide +kernel
theorem dM_count_28 : decode cM_count 28 = .ok (.iload_n 1, 1) := by decide +kernel
theorem dM_count_29 : decode cM_count 29 = .ok (.i2l, 1) := by decide +kernel
theorem dM_count_30 : decode cM_count 30 = .ok (.invokevirtual 184, 3) := by decide +kernel
theorem dM_count_33 : decode cM_count 33 = .ok (.aload_n 0, 1) := by decide +kernel
theorem dM_count_34 : decode cM_count 34 = .ok (.getfield 169, 3) := by decide +kernel
theorem dM_count_37 : decode cM_count 37 = .ok (.ireturn, 1) := by decide +kernel
theorem cb_M_look_M_count : CB yM_look cM_look 4 none rm_M_look rm_M_count 1 := ⟨wd598, wd8, by decide +kernel, rfl, rfl, by decide⟩
theorem cb_M_origin_M_count : CB yM_origin cM_origin 2 none rm_M_origin rm_M_count 0 := ⟨wd669, wd8, by decide +kernel, rfl, rfl, by decide⟩
theorem cb_M_walk_M_count : CB yM_walk cM_walk 5 none rm_M_walk rm_M_count 2 := ⟨wd673, wd8, by decide +kernel, rfl, rfl, by decide⟩
noncomputable def M_count (F : Nat) (τ : MS) (v1 : Int32) : Option (Int32 × MS) := if v1 < 0 then some ((-1 : Int32), τ) else if v1 ≤ (40 : Int32) then (M_look F τ (-1 : Int32)).bind (fun r14 => (M_origin F r14 ).bind (fun r18 => (M_walk F (s_counted r18 ((0 : Int32))) (0 : Int32) ((v1).toInt64)).bind (fun r30 => some ((m_counted r30), r30)))) else some ((-1 : Int32), τ)
set_option maxHeartbeats 4000000 in
set_option maxRecDepth 100000 in
theorem met_M_count (κ : ctx) (X : Nat → va_E) (F : Nat) (τ : MS) (v1 : Int32) {out : Int32 × MS} (h : M_count F τ v1 = some out) : Mt yM_count cM_count 2 (some .int) rm_M_count κ [.ref (κ.1 0), .int v1] (LM κ τ X) (some (.int out.1)) (LM κ out.2 X) := by
  refine Mt.of (by decide) (Nat.le_of_ble_eq_true rfl) ?_
  intro g G Fh
  unfold M_count at h
  show J g κ 2 0 [(0, .ref (κ.1 0)), (1, .int v1)] [] (LM κ τ X)
  refine w_iload_n (pc := 0) (q := 1) G dM_count_0 rfl rfl ?_
  refine w_if_lt (pc := 1) (tgt := 10) G dM_count_1 (by decide) (fun c1 => ?_) (fun c1 => ?_)
  · have h := if_t c1 h
    refine w_iconst (pc := 10) (v := (-1 : Int32)) G dM_count_10 (by decide) ?_
    obtain rfl := Option.some.inj h
    exact w_iret (pc := 11) G dM_count_11 Fh
  · have h := if_f c1 h
    refine w_iload_n (pc := 4) (q := 1) G dM_count_4 rfl rfl ?_
    refine w_bipush (pc := 5) (v := (40 : Int32)) G dM_count_5 (by decide) ?_
    refine w_icmp_le (pc := 7) (tgt := 12) G dM_count_7 (by decide) (fun c7 => ?_) (fun c7 => ?_)
    · have h := if_t c7 h
      refine w_aload_n (pc := 12) (q := 0) G dM_count_12 rfl rfl ?_
      refine w_iconst (pc := 13) (v := (-1 : Int32)) G dM_count_13 (by decide) ?_
      obtain ⟨r14, e14, h⟩ := bd h
      refine w_callV (pc := 14) (av := [.int (-1 : Int32)]) (rest := []) (v := none) (L' := (LM κ r14 X)) (T := TM) (fs := mfl κ τ) G 0 0 27 (by decide) rfl rfl cb_M_look_M_count wd597 ws20 wd595 (met_M_look κ X F τ (-1 : Int32) e14) rfl rfl rfl (Nat.le_of_ble_eq_true rfl) dM_count_14 ?_
      refine w_aload_n (pc := 17) (q := 0) G dM_count_17 rfl rfl ?_
      obtain ⟨r18, e18, h⟩ := bd h
      refine w_callV (pc := 18) (av := []) (rest := []) (v := none) (L' := (LM κ r18 X)) (T := TM) (fs := mfl κ r14) G 0 0 27 (by decide) rfl rfl cb_M_origin_M_count wd668 ws31 wd666 (met_M_origin κ X F r14  e18) rfl rfl rfl (Nat.le_of_ble_eq_true rfl) dM_count_18 ?_
      refine w_aload_n (pc := 21) (q := 0) G dM_count_21 rfl rfl ?_
      refine w_iconst (pc := 22) (v := (0 : Int32)) G dM_count_22 (by decide) ?_
      refine w_put (pc := 23) (fs := mfl κ r18) (L1 := (LM κ (s_counted r18 ((0 : Int32))) X)) G 0 (by decide) rfl rfl wsM_ok tyM tyM_ok nmM 15 (by decide) wd505 rfl rfl rfl (Nat.le_of_ble_eq_true rfl) dM_count_23 (LMf_counted κ r18 X _) ?_
      refine w_aload_n (pc := 26) (q := 0) G dM_count_26 rfl rfl ?_
      refine w_iconst (pc := 27) (v := (0 : Int32)) G dM_count_27 (by decide) ?_
      refine w_iload_n (pc := 28) (q := 1) G dM_count_28 rfl rfl ?_
      refine w_i2l (pc := 29) G dM_count_29 ?_
      obtain ⟨r30, e30, h⟩ := bd h
      refine w_callV (pc := 30) (av := [.int (0 : Int32), .long (v1).toInt64]) (rest := []) (v := none) (L' := (LM κ r30 X)) (T := TM) (fs := mfl κ (s_counted r18 ((0 : Int32)))) G 0 0 27 (by decide) rfl rfl cb_M_walk_M_count wd672 ws32 wd670 (met_M_walk κ X F (s_counted r18 ((0 : Int32))) (0 : Int32) ((v1).toInt64) e30) rfl rfl rfl (Nat.le_of_ble_eq_true rfl) dM_count_30 ?_
      refine w_aload_n (pc := 33) (q := 0) G dM_count_33 rfl rfl ?_
      refine w_get (pc := 34) (v := .int (m_counted r30)) (fs := mfl κ r30) G 0 (by decide) rfl rfl wsM_ok 15 (by decide) wd505 rfl dM_count_34 ?_
      obtain rfl := Option.some.inj h
      exact w_iret (pc := 37) G dM_count_37 Fh
    · have h := if_f c7 h
      refine w_iconst (pc := 10) (v := (-1 : Int32)) G dM_count_10 (by decide) ?_
      obtain rfl := Option.some.inj h
      exact w_iret (pc := 11) G dM_count_11 Fh
def rm_M_list : Room := { frames := 7, cells := 0, slots := 0, locals := 179 }
theorem dM_list_0 : decode cM_list 0 = .ok (.aload_n 0, 1) := by decide +kernel
theorem dM_list_1 : decode cM_list 1 = .ok (.iconst (-1), 1) := by decide +kernel
theorem dM_list_2 : decode cM_list 2 = .ok (.invokevirtual 107, 3) := by decide +kernel
theorem dM_list_5 : decode cM_list 5 = .ok (.aload_n 0, 1) := by decide +kernel
theorem dM_list_6 : decode cM_list 6 = .ok (.getfield 57, 3) := by decide +kernel
theorem dM_list_9 : decode cM_list 9 = .ok (.ifCond .eq 4, 3) := by decide +kernel
theorem dM_list_12 : decode cM_list 12 = .ok (.return_, 1) := by decide +kernel
theorem dM_list_13 : decode cM_list 13 = .ok (.aload_n 0, 1) := by decide +kernel
theorem dM_list_14 : decode cM_list 14 = .ok (.iconst 1, 1) := by decide +kernel
theorem dM_list_15 : decode cM_list 15 = .ok (.putfield 57, 3) := by decide +kernel
theorem dM_list_18 : decode cM_list 18 = .ok (.aload_n 0, 1) := by decide +kernel
theorem dM_list_19 : decode cM_list 19 = .ok (.invokevirtual 181, 3) := by decide +kernel
theorem dM_list_22 : decode cM_list 22 = .ok (.lconst 1, 1) := by decide +kernel
theorem dM_list_23 : decode cM_list 23 = .ok (.lstore_n 1, 1) := by decide +kernel
theorem dM_list_24 : decode cM_list 24 = .ok (.aload_n 0, 1) := by decide +kernel
theorem dM_list_25 : decode cM_list 25 = .ok (.iconst 0, 1) := by decide +kernel
theorem dM_list_26 : decode cM_list 26 = .ok (.putfield 187, 3) := by decide +kernel
theorem dM_list_29 : decode cM_list 29 = .ok (.aload_n 0, 1) := by decide +kernel
theorem dM_list_30 : decode cM_list 30 = .ok (.getfield 187, 3) := by decide +kernel
theorem dM_list_33 : decode cM_list 33 = .ok (.bipush 41, 2) := by decide +kernel
theorem dM_list_35 : decode cM_list 35 = .ok (.if_icmp .ge 37, 3) := by decide +kernel
theorem dM_list_38 : decode cM_list 38 = .ok (.aload_n 0, 1) := by decide +kernel
theorem dM_list_39 : decode cM_list 39 = .ok (.getfield 187, 3) := by decide +kernel
theorem dM_list_42 : decode cM_list 42 = .ok (.ifCond .eq 10, 3) := by decide +kernel
theorem dM_list_45 : decode cM_list 45 = .ok (.aload_n 0, 1) := by decide +kernel
theorem dM_list_46 : decode cM_list 46 = .ok (.getfield 74, 3) := by decide +kernel
theorem dM_list_49 : decode cM_list 49 = .ok (.ifCond .le 23, 3) := by decide +kernel
theorem dM_list_52 : decode cM_list 52 = .ok (.aload_n 0, 1) := by decide +kernel
theorem dM_list_53 : decode cM_list 53 = .ok (.iconst 0, 1) := by decide +kernel
theorem dM_list_54 : decode cM_list 54 = .ok (.putfield 187, 3) := by decide +kernel
theorem dM_list_57 : decode cM_list 57 = .ok (.aload_n 0, 1) := by decide +kernel
theorem dM_list_58 : decode cM_list 58 = .ok (.iconst 1, 1) := by decide +kernel
theorem dM_list_59 : decode cM_list 59 = .ok (.lload_n 1, 1) := by decide +kernel
theorem dM_list_60 : decode cM_list 60 = .ok (.invokevirtual 184, 3) := by decide +kernel
theorem dM_list_63 : decode cM_list 63 = .ok (.ldc2_w 130, 3) := by decide +kernel
theorem dM_list_66 : decode cM_list 66 = .ok (.lload_n 1, 1) := by decide +kernel
theorem dM_list_67 : decode cM_list 67 = .ok (.lmul, 1) := by decide +kernel
theorem dM_list_68 : decode cM_list 68 = .ok (.lstore_n 1, 1) := by decide +kernel
theorem dM_list_69 : decode cM_list 69 = .ok (.goto (-40), 3) := by decide +kernel
theorem dM_list_72 : decode cM_list 72 = .ok (.return_, 1) := by decide +kernel
theorem cb_M_look_M_list : CB yM_look cM_look 4 none rm_M_look rm_M_list 1 := ⟨wd598, wd8, by decide +kernel, rfl, rfl, by decide⟩
theorem cb_M_origin_M_list : CB yM_origin cM_origin 2 none rm_M_origin rm_M_list 0 := ⟨wd669, wd8, by decide +kernel, rfl, rfl, by decide⟩
theorem cb_M_walk_M_list : CB yM_walk cM_walk 5 none rm_M_walk rm_M_list 2 := ⟨wd673, wd8, by decide +kernel, rfl, rfl, by decide⟩
noncomputable def lM_list_29 (F : Nat)  : Nat → Int64 → MS → Option (MS)
  | 0, _, _ => none
  | n + 1, v1, τ => if (41 : Int32) ≤ (m_held τ) then some (τ) else if (m_held τ) = 0 then (M_walk F (s_held τ ((0 : Int32))) (1 : Int32) v1).bind (fun r60 => lM_list_29 F  n ((2 : Int64) * v1) r60) else if (m_rows τ) ≤ 0 then some (τ) else (M_walk F (s_held τ ((0 : Int32))) (1 : Int32) v1).bind (fun r60 => lM_list_29 F  n ((2 : Int64) * v1) r60)
set_option maxHeartbeats 4000000 in
set_option maxRecDepth 100000 in
theorem lM_list_29_ok {g : Gm} {κ : ctx} (G : OK g κ RM cM_list 3 none rm_M_list) (X : Nat → va_E) (F : Nat)  : ∀ (n : Nat) (v1 : Int64) (τ : MS) (out : MS), lM_list_29 F  n v1 τ = some out → (J g κ 3 72 [] [] (LM κ out X)) → J g κ 3 29 [(0, .ref (κ.1 0)), (1, .long v1)] [] (LM κ τ X) := by
  intro n
  induction n with
  | zero =>
    intro v1 τ
    intro out h
    rw [lM_list_29] at h
    cases h
  | succ n ih =>
    intro v1 τ out h K
    rw [lM_list_29] at h
    refine w_aload_n (pc := 29) (q := 0) G dM_list_29 rfl rfl ?_
    refine w_get (pc := 30) (v := .int (m_held τ)) (fs := mfl κ τ) G 0 (by decide) rfl rfl wsM_ok 17 (by decide) wd507 rfl dM_list_30 ?_
    refine w_bipush (pc := 33) (v := (41 : Int32)) G dM_list_33 (by decide) ?_
    refine w_icmp_ge (pc := 35) (tgt := 72) G dM_list_35 (by decide) (fun c35 => ?_) (fun c35 => ?_)
    · have h := if_t c35 h
      obtain rfl := Option.some.inj h
      refine w_sub (lv' := []) [] rfl ?_
      exact K
    · have h := if_f c35 h
      refine w_aload_n (pc := 38) (q := 0) G dM_list_38 rfl rfl ?_
      refine w_get (pc := 39) (v := .int (m_held τ)) (fs := mfl κ τ) G 0 (by decide) rfl rfl wsM_ok 17 (by decide) wd507 rfl dM_list_39 ?_
      refine w_if_eq (pc := 42) (tgt := 52) G dM_list_42 (by decide) (fun c42 => ?_) (fun c42 => ?_)
      · have h := if_t c42 h
        refine w_aload_n (pc := 52) (q := 0) G dM_list_52 rfl rfl ?_
        refine w_iconst (pc := 53) (v := (0 : Int32)) G dM_list_53 (by decide) ?_
        refine w_put (pc := 54) (fs := mfl κ τ) (L1 := (LM κ (s_held τ ((0 : Int32))) X)) G 0 (by decide) rfl rfl wsM_ok tyM tyM_ok nmM 17 (by decide) wd507 rfl rfl rfl (Nat.le_of_ble_eq_true rfl) dM_list_54 (LMf_held κ τ X _) ?_
        refine w_aload_n (pc := 57) (q := 0) G dM_list_57 rfl rfl ?_
        refine w_iconst (pc := 58) (v := (1 : Int32)) G dM_list_58 (by decide) ?_
        refine w_lload_n (pc := 59) (q := 1) G dM_list_59 rfl rfl ?_
        obtain ⟨r60, e60, h⟩ := bd h
        refine w_callV (pc := 60) (av := [.int (1 : Int32), .long v1]) (rest := []) (v := none) (L' := (LM κ r60 X)) (T := TM) (fs := mfl κ (s_held τ ((0 : Int32)))) G 0 0 27 (by decide) rfl rfl cb_M_walk_M_list wd672 ws32 wd670 (met_M_walk κ X F (s_held τ ((0 : Int32))) (1 : Int32) v1 e60) rfl rfl rfl (Nat.le_of_ble_eq_true rfl) dM_list_60 ?_
        refine w_ldc2 (pc := 63) (v := (2 : Int64)) G wd710 dM_list_63 ?_
        refine w_lload_n (pc := 66) (q := 1) G dM_list_66 rfl rfl ?_
        refine w_lmul (pc := 67) G dM_list_67 ?_
        refine w_lstore_n (pc := 68) (lv' := [(1, .long ((2 : Int64) * v1)), (0, .ref (κ.1 0))]) G dM_list_68 rfl (by decide) rfl ?_
        refine w_goto (pc := 69) (tgt := 29) G dM_list_69 (by decide) ?_
        refine w_sub (lv' := [(0, .ref (κ.1 0)), (1, .long ((2 : Int64) * v1))]) [1, 0] rfl ?_
        exact ih ((2 : Int64) * v1) r60 out h K
      · have h := if_f c42 h
        refine w_aload_n (pc := 45) (q := 0) G dM_list_45 rfl rfl ?_
        refine w_get (pc := 46) (v := .int (m_rows τ)) (fs := mfl κ τ) G 0 (by decide) rfl rfl wsM_ok 4 (by decide) wd494 rfl dM_list_46 ?_
        refine w_if_le (pc := 49) (tgt := 72) G dM_list_49 (by decide) (fun c49 => ?_) (fun c49 => ?_)
        · have h := if_t c49 h
          obtain rfl := Option.some.inj h
          refine w_sub (lv' := []) [] rfl ?_
          exact K
        · have h := if_f c49 h
          refine w_aload_n (pc := 52) (q := 0) G dM_list_52 rfl rfl ?_
          refine w_iconst (pc := 53) (v := (0 : Int32)) G dM_list_53 (by decide) ?_
          refine w_put (pc := 54) (fs := mfl κ τ) (L1 := (LM κ (s_held τ ((0 : Int32))) X)) G 0 (by decide) rfl rfl wsM_ok tyM tyM_ok nmM 17 (by decide) wd507 rfl rfl rfl (Nat.le_of_ble_eq_true rfl) dM_list_54 (LMf_held κ τ X _) ?_
          refine w_aload_n (pc := 57) (q := 0) G dM_list_57 rfl rfl ?_
          refine w_iconst (pc := 58) (v := (1 : Int32)) G dM_list_58 (by decide) ?_
          refine w_lload_n (pc := 59) (q := 1) G dM_list_59 rfl rfl ?_
          obtain ⟨r60, e60, h⟩ := bd h
          refine w_callV (pc := 60) (av := [.int (1 : Int32), .long v1]) (rest := []) (v := none) (L' := (LM κ r60 X)) (T := TM) (fs := mfl κ (s_held τ ((0 : Int32)))) G 0 0 27 (by decide) rfl rfl cb_M_walk_M_list wd672 ws32 wd670 (met_M_walk κ X F (s_held τ ((0 : Int32))) (1 : Int32) v1 e60) rfl rfl rfl (Nat.le_of_ble_eq_true rfl) dM_list_60 ?_
          refine w_ldc2 (pc := 63) (v := (2 : Int64)) G wd710 dM_list_63 ?_
          refine w_lload_n (pc := 66) (q := 1) G dM_list_66 rfl rfl ?_
          refine w_lmul (pc := 67) G dM_list_67 ?_
          refine w_lstore_n (pc := 68) (lv' := [(1, .long ((2 : Int64) * v1)), (0, .ref (κ.1 0))]) G dM_list_68 rfl (by decide) rfl ?_
          refine w_goto (pc := 69) (tgt := 29) G dM_list_69 (by decide) ?_
          refine w_sub (lv' := [(0, .ref (κ.1 0)), (1, .long ((2 : Int64) * v1))]) [1, 0] rfl ?_
          exact ih ((2 : Int64) * v1) r60 out h K
noncomputable def M_list (F : Nat) (τ : MS)  : Option (MS) := (M_look F τ (-1 : Int32)).bind (fun r2 => if (m_listed r2) = 0 then (M_origin F (s_listed r2 ((1 : Int32))) ).bind (fun r19 => (lM_list_29 F  F (1 : Int64) (s_held r19 ((0 : Int32)))).bind (fun o29_9 => some o29_9)) else some r2)
set_option maxHeartbeats 4000000 in
set_option maxRecDepth 100000 in
theorem met_M_list (κ : ctx) (X : Nat → va_E) (F : Nat) (τ : MS)  {out : MS} (h : M_list F τ  = some out) : Mt yM_list cM_list 3 none rm_M_list κ [.ref (κ.1 0)] (LM κ τ X) none (LM κ out X) := by
  refine Mt.of (by decide) (Nat.le_of_ble_eq_true rfl) ?_
  intro g G Fh
  unfold M_list at h
  show J g κ 3 0 [(0, .ref (κ.1 0))] [] (LM κ τ X)
  refine w_aload_n (pc := 0) (q := 0) G dM_list_0 rfl rfl ?_
  refine w_iconst (pc := 1) (v := (-1 : Int32)) G dM_list_1 (by decide) ?_
  obtain ⟨r2, e2, h⟩ := bd h
  refine w_callV (pc := 2) (av := [.int (-1 : Int32)]) (rest := []) (v := none) (L' := (LM κ r2 X)) (T := TM) (fs := mfl κ τ) G 0 0 27 (by decide) rfl rfl cb_M_look_M_list wd597 ws20 wd595 (met_M_look κ X F τ (-1 : Int32) e2) rfl rfl rfl (Nat.le_of_ble_eq_true rfl) dM_list_2 ?_
  refine w_aload_n (pc := 5) (q := 0) G dM_list_5 rfl rfl ?_
  refine w_get (pc := 6) (v := .int (m_listed r2)) (fs := mfl κ r2) G 0 (by decide) rfl rfl wsM_ok 16 (by decide) wd506 rfl dM_list_6 ?_
  refine w_if_eq (pc := 9) (tgt := 13) G dM_list_9 (by decide) (fun c9 => ?_) (fun c9 => ?_)
  · have h := if_t c9 h
    refine w_aload_n (pc := 13) (q := 0) G dM_list_13 rfl rfl ?_
    refine w_iconst (pc := 14) (v := (1 : Int32)) G dM_list_14 (by decide) ?_
    refine w_put (pc := 15) (fs := mfl κ r2) (L1 := (LM κ (s_listed r2 ((1 : Int32))) X)) G 0 (by decide) rfl rfl wsM_ok tyM tyM_ok nmM 16 (by decide) wd506 rfl rfl rfl (Nat.le_of_ble_eq_true rfl) dM_list_15 (LMf_listed κ r2 X _) ?_
    refine w_aload_n (pc := 18) (q := 0) G dM_list_18 rfl rfl ?_
    obtain ⟨r19, e19, h⟩ := bd h
    refine w_callV (pc := 19) (av := []) (rest := []) (v := none) (L' := (LM κ r19 X)) (T := TM) (fs := mfl κ (s_listed r2 ((1 : Int32)))) G 0 0 27 (by decide) rfl rfl cb_M_origin_M_list wd668 ws31 wd666 (met_M_origin κ X F (s_listed r2 ((1 : Int32)))  e19) rfl rfl rfl (Nat.le_of_ble_eq_true rfl) dM_list_19 ?_
    refine w_lconst (pc := 22) (v := (1 : Int64)) G dM_list_22 (by decide) ?_
    refine w_lstore_n (pc := 23) (lv' := [(1, .long (1 : Int64)), (0, .ref (κ.1 0))]) G dM_list_23 rfl (by decide) rfl ?_
    refine w_aload_n (pc := 24) (q := 1) G dM_list_24 rfl rfl ?_
    refine w_iconst (pc := 25) (v := (0 : Int32)) G dM_list_25 (by decide) ?_
    refine w_put (pc := 26) (fs := mfl κ r19) (L1 := (LM κ (s_held r19 ((0 : Int32))) X)) G 0 (by decide) rfl rfl wsM_ok tyM tyM_ok nmM 17 (by decide) wd507 rfl rfl rfl (Nat.le_of_ble_eq_true rfl) dM_list_26 (LMf_held κ r19 X _) ?_
    refine w_sub (lv' := [(0, .ref (κ.1 0)), (1, .long (1 : Int64))]) [1, 0] rfl ?_
    obtain ⟨o29_9, eo29_9, h⟩ := bd h
    refine lM_list_29_ok G X F  F (1 : Int64) (s_held r19 ((0 : Int32))) o29_9 eo29_9 ?_
    obtain rfl := Option.some.inj h
    exact w_vret (pc := 72) G dM_list_72 Fh
  · have h := if_f c9 h
    obtain rfl := Option.some.inj h
    exact w_vret (pc := 12) G dM_list_12 Fh
def rm_M_vector : Room := { frames := 8, cells := 0, slots := 0, locals := 201 }
theorem dM_vector_0 : decode cM_vector 0 = .ok (.iload_n 2, 1) := by decide +kernel
theorem dM_vector_1 : decode cM_vector 1 = .ok (.ifCond .lt 18, 3) := by decide +kernel
theorem dM_vector_4 : decode cM_vector 4 = .ok (.iload_n 2, 1) := by decide +kernel
theorem dM_vector_5 : decode cM_vector 5 = .ok (.iconst 3, 1) := by decide +kernel
theorem dM_vector_6 : decode cM_vector 6 = .ok (.if_icmp .gt 13, 3) := by decide +kernel
theorem dM_vector_9 : decode cM_vector 9 = .ok (.iload_n 1, 1) := by decide +kernel
theorem dM_vector_10 : decode cM_vector 10 = .ok (.ifCond .lt 9, 3) := by decide +kernel
theorem dM_vector_13 : decode cM_vector 13 = .ok (.iload_n 1, 1) := by decide +kernel
theorem dM_vector_14 : decode cM_vector 14 = .ok (.bipush 40, 2) := by decide +kernel
theorem dM_vector_16 : decode cM_vector 16 = .ok (.if_icmp .le 7, 3) := by decide +kernel
theorem dM_vector_19 : decode cM_vector 19 = .ok (.sipush 1000, 3) := by decide +kernel
theorem dM_vector_22 : decode cM_vector 22 = .ok (.ireturn, 1) := by decide +kernel
theorem dM_vector_23 : decode cM_vector 23 = .ok (.aload_n 0, 1) := by decide +kernel
theorem dM_vector_24 : decode cM_vector 24 = .ok (.invokevirtual 194, 3) := by decide +kernel
theorem dM_vector_27 : decode cM_vector 27 = .ok (.aload_n 0, 1) := by decide +kernel
theorem dM_vector_28 : decode cM_vector 28 = .ok (.getfield 74, 3) := by decide +kernel
theorem dM_vector_31 : decode cM_vector 31 = .ok (.ifCond .ne 13, 3) := by decide +kernel
theorem dM_vector_34 : decode cM_vector 34 = .ok (.iload_n 1, 1) := by decide +kernel
theorem dM_vector_35 : decode cM_vector 35 = .ok (.ifCond .le 9, 3) := by decide +kernel
theorem dM_vector_38 : decode cM_vector 38 = .ok (.sipush 1000, 3) := by decide +kernel
theorem dM_vector_41 : decode cM_vector 41 = .ok (.goto 14, 3) := by decide +kernel
theorem dM_vector_44 : decode cM_vector 44 = .ok (.aload_n 0, 1) := by decide +kernel
theorem dM_vector_45 : decode cM_vector 45 = .ok (.getfield 38, 3) := by decide +kernel
theorem dM_vector_48 : decode cM_vector 48 = .ok (.iconst 4, 1) := by decide +kernel
theorem dM_vector_49 : decode cM_vector 49 = .ok (.iload_n 1, 1) := by decide +kernel
theorem dM_vector_50 : decode cM_vector 50 = .ok (.imul, 1) := by decide +kernel
theorem dM_vector_51 : decode cM_vector 51 = .ok (.iload_n 2, 1) := by decide +kernel
theorem dM_vector_52 : decode cM_vector 52 = .ok (.iadd, 1) := by decide +kernel
theorem dM_vector_53 : decode cM_vector 53 = .ok (.laload, 1) := by decide +kernel
theorem dM_vector_54 : decode cM_vector 54 = .ok (.l2i, 1) := by decide +kernel
theorem dM_vector_55 : decode cM_vector 55 = .ok (.ireturn, 1) := by decide +kernel
theorem cb_M_list_M_vector : CB yM_list cM_list 3 none rm_M_list rm_M_vector 0 := ⟨wd734, wd8, by decide +kernel, rfl, rfl, by decide⟩
noncomputable def M_vector (F : Nat) (τ : MS) (v1 : Int32) (v2 : Int32) : Option (Int32 × MS) := if v2 < 0 then some ((1000 : Int32), τ) else if (3 : Int32) < v2 then some ((1000 : Int32), τ) else if v1 < 0 then some ((1000 : Int32), τ) else if v1 ≤ (40 : Int32) then (M_list F τ ).bind (fun r24 => if (m_rows r24) = 0 then if v1 ≤ 0 then gd (vp_in (((4 : Int32) * v1) + v2) 164) (some (((m_first r24) (((4 : Int32) * v1) + v2).toNatClampNeg).toInt32, r24)) else some ((1000 : Int32), r24) else gd (vp_in (((4 : Int32) * v1) + v2) 164) (some (((m_first r24) (((4 : Int32) * v1) + v2).toNatClampNeg).toInt32, r24))) else some ((1000 : Int32), τ)
set_option maxHeartbeats 4000000 in
set_option maxRecDepth 100000 in
theorem met_M_vector (κ : ctx) (X : Nat → va_E) (F : Nat) (τ : MS) (v1 : Int32) (v2 : Int32) {out : Int32 × MS} (h : M_vector F τ v1 v2 = some out) : Mt yM_vector cM_vector 3 (some .int) rm_M_vector κ [.ref (κ.1 0), .int v1, .int v2] (LM κ τ X) (some (.int out.1)) (LM κ out.2 X) := by
  refine Mt.of (by decide) (Nat.le_of_ble_eq_true rfl) ?_
  intro g G Fh
  unfold M_vector at h
  show J g κ 3 0 [(0, .ref (κ.1 0)), (1, .int v1), (2, .int v2)] [] (LM κ τ X)
  refine w_iload_n (pc := 0) (q := 2) G dM_vector_0 rfl rfl ?_
  refine w_if_lt (pc := 1) (tgt := 19) G dM_vector_1 (by decide) (fun c1 => ?_) (fun c1 => ?_)
  · have h := if_t c1 h
    refine w_sipush (pc := 19) (v := (1000 : Int32)) G dM_vector_19 (by decide) ?_
    obtain rfl := Option.some.inj h
    exact w_iret (pc := 22) G dM_vector_22 Fh
  · have h := if_f c1 h
    refine w_iload_n (pc := 4) (q := 2) G dM_vector_4 rfl rfl ?_
    refine w_iconst (pc := 5) (v := (3 : Int32)) G dM_vector_5 (by decide) ?_
    refine w_icmp_gt (pc := 6) (tgt := 19) G dM_vector_6 (by decide) (fun c6 => ?_) (fun c6 => ?_)
    · have h := if_t c6 h
      refine w_sipush (pc := 19) (v := (1000 : Int32)) G dM_vector_19 (by decide) ?_
      obtain rfl := Option.some.inj h
      exact w_iret (pc := 22) G dM_vector_22 Fh
    · have h := if_f c6 h
      refine w_iload_n (pc := 9) (q := 1) G dM_vector_9 rfl rfl ?_
      refine w_if_lt (pc := 10) (tgt := 19) G dM_vector_10 (by decide) (fun c10 => ?_) (fun c10 => ?_)
      · have h := if_t c10 h
        refine w_sipush (pc := 19) (v := (1000 : Int32)) G dM_vector_19 (by decide) ?_
        obtain rfl := Option.some.inj h
        exact w_iret (pc := 22) G dM_vector_22 Fh
      · have h := if_f c10 h
        refine w_iload_n (pc := 13) (q := 1) G dM_vector_13 rfl rfl ?_
        refine w_bipush (pc := 14) (v := (40 : Int32)) G dM_vector_14 (by decide) ?_
        refine w_icmp_le (pc := 16) (tgt := 23) G dM_vector_16 (by decide) (fun c16 => ?_) (fun c16 => ?_)
        · have h := if_t c16 h
          refine w_aload_n (pc := 23) (q := 0) G dM_vector_23 rfl rfl ?_
          obtain ⟨r24, e24, h⟩ := bd h
          refine w_callV (pc := 24) (av := []) (rest := []) (v := none) (L' := (LM κ r24 X)) (T := TM) (fs := mfl κ τ) G 0 0 27 (by decide) rfl rfl cb_M_list_M_vector wd733 ws45 wd731 (met_M_list κ X F τ  e24) rfl rfl rfl (Nat.le_of_ble_eq_true rfl) dM_vector_24 ?_
          refine w_aload_n (pc := 27) (q := 0) G dM_vector_27 rfl rfl ?_
          refine w_get (pc := 28) (v := .int (m_rows r24)) (fs := mfl κ r24) G 0 (by decide) rfl rfl wsM_ok 4 (by decide) wd494 rfl dM_vector_28 ?_
          refine w_if_ne (pc := 31) (tgt := 44) G dM_vector_31 (by decide) (fun c31 => ?_) (fun c31 => ?_)
          · have h := if_t c31 h
            refine w_iload_n (pc := 34) (q := 1) G dM_vector_34 rfl rfl ?_
            refine w_if_le (pc := 35) (tgt := 44) G dM_vector_35 (by decide) (fun c35 => ?_) (fun c35 => ?_)
            · have h := if_t c35 h
              refine w_aload_n (pc := 44) (q := 0) G dM_vector_44 rfl rfl ?_
              refine w_get (pc := 45) (v := .ref (κ.1 10)) (fs := mfl κ r24) G 0 (by decide) rfl rfl wsM_ok 18 (by decide) wd508 rfl dM_vector_45 ?_
              refine w_iconst (pc := 48) (v := (4 : Int32)) G dM_vector_48 (by decide) ?_
              refine w_iload_n (pc := 49) (q := 1) G dM_vector_49 rfl rfl ?_
              refine w_imul (pc := 50) G dM_vector_50 ?_
              refine w_iload_n (pc := 51) (q := 2) G dM_vector_51 rfl rfl ?_
              refine w_iadd (pc := 52) G dM_vector_52 ?_
              obtain ⟨i53, h⟩ := gd_some h
              refine w_lald (pc := 53) (n := 164) (f := (m_first r24)) G 10 (by decide) rfl i53 dM_vector_53 ?_
              refine w_l2i (pc := 54) G dM_vector_54 ?_
              obtain rfl := Option.some.inj h
              exact w_iret (pc := 55) G dM_vector_55 Fh
            · have h := if_f c35 h
              refine w_sipush (pc := 38) (v := (1000 : Int32)) G dM_vector_38 (by decide) ?_
              refine w_goto (pc := 41) (tgt := 55) G dM_vector_41 (by decide) ?_
              obtain rfl := Option.some.inj h
              exact w_iret (pc := 55) G dM_vector_55 Fh
          · have h := if_f c31 h
            refine w_aload_n (pc := 44) (q := 0) G dM_vector_44 rfl rfl ?_
            refine w_get (pc := 45) (v := .ref (κ.1 10)) (fs := mfl κ r24) G 0 (by decide) rfl rfl wsM_ok 18 (by decide) wd508 rfl dM_vector_45 ?_
            refine w_iconst (pc := 48) (v := (4 : Int32)) G dM_vector_48 (by decide) ?_
            refine w_iload_n (pc := 49) (q := 1) G dM_vector_49 rfl rfl ?_
            refine w_imul (pc := 50) G dM_vector_50 ?_
            refine w_iload_n (pc := 51) (q := 2) G dM_vector_51 rfl rfl ?_
            refine w_iadd (pc := 52) G dM_vector_52 ?_
            obtain ⟨i53, h⟩ := gd_some h
            refine w_lald (pc := 53) (n := 164) (f := (m_first r24)) G 10 (by decide) rfl i53 dM_vector_53 ?_
            refine w_l2i (pc := 54) G dM_vector_54 ?_
            obtain rfl := Option.some.inj h
            exact w_iret (pc := 55) G dM_vector_55 Fh
        · have h := if_f c16 h
          refine w_sipush (pc := 19) (v := (1000 : Int32)) G dM_vector_19 (by decide) ?_
          obtain rfl := Option.some.inj h
          exact w_iret (pc := 22) G dM_vector_22 Fh
def rm_M_reaches : Room := { frames := 7, cells := 0, slots := 0, locals := 179 }
theorem dM_reaches_0 : decode cM_reaches 0 = .ok (.aload_n 0, 1) := by decide +kernel
theorem dM_reaches_1 : decode cM_reaches 1 = .ok (.invokevirtual 181, 3) := by decide +kernel
theorem dM_reaches_4 : decode cM_reaches 4 = .ok (.aload_n 0, 1) := by decide +kernel
theorem dM_reaches_5 : decode cM_reaches 5 = .ok (.iload_n 1, 1) := by decide +kernel
theorem dM_reaches_6 : decode cM_reaches 6 = .ok (.putfield 152, 3) := by decide +kernel
theorem dM_reaches_9 : decode cM_reaches 9 = .ok (.aload_n 0, 1) := by decide +kernel
theorem dM_reaches_10 : decode cM_reaches 10 = .ok (.iconst 0, 1) := by decide +kernel
theorem dM_reaches_11 : decode cM_reaches 11 = .ok (.putfield 149, 3) := by decide +kernel
theorem dM_reaches_14 : decode cM_reaches 14 = .ok (.aload_n 0, 1) := by decide +kernel
theorem dM_reaches_15 : decode cM_reaches 15 = .ok (.iconst 2, 1) := by decide +kernel
theorem dM_reaches_16 : decode cM_reaches 16 = .ok (.iload_n 2, 1) := by decide +kernel
theorem dM_reaches_17 : decode cM_reaches 17 = .ok (.i2l, 1) := by decide +kernel
theorem dM_reaches_18 : decode cM_reaches 18 = .ok (.invokevirtual 184, 3) := by decide +kernel
theorem dM_reaches_21 : decode cM_reaches 21 = .ok (.aload_n 0, 1) := by decide +kernel
theorem dM_reaches_22 : decode cM_reaches 22 = .ok (.getfield 149, 3) := by decide +kernel
theorem dM_reaches_25 : decode cM_reaches 25 = .ok (.iload_n 1, 1) := by decide +kernel
theorem dM_reaches_26 : decode cM_reaches 26 = .ok (.if_icmp .lt 7, 3) := by decide +kernel
theorem dM_reaches_29 : decode cM_reaches 29 = .ok (.iconst 1, 1) := by decide +kernel
theorem dM_reaches_30 : decode cM_reaches 30 = .ok (.goto 4, 3) := by decide +kernel
theorem dM_reaches_33 : decode cM_reaches 33 = .ok (.iconst 0, 1) := by decide +kernel
theorem dM_reaches_34 : decode cM_reaches 34 = .ok (.ireturn, 1) := by decide +kernel
theorem cb_M_origin_M_reaches : CB yM_origin cM_origin 2 none rm_M_origin rm_M_reaches 0 := ⟨wd669, wd8, by decide +kernel, rfl, rfl, by decide⟩
theorem cb_M_walk_M_reaches : CB yM_walk cM_walk 5 none rm_M_walk rm_M_reaches 2 := ⟨wd673, wd8, by decide +kernel, rfl, rfl, by decide⟩
noncomputable def M_reaches (F : Nat) (τ : MS) (v1 : Int32) (v2 : Int32) : Option (Int32 × MS) := (M_origin F τ ).bind (fun r1 => (M_walk F (s_spanned (s_wanted r1 (v1)) ((0 : Int32))) (2 : Int32) ((v2).toInt64)).bind (fun r18 => if (m_spanned r18) < v1 then some ((0 : Int32), r18) else some ((1 : Int32), r18)))
set_option maxHeartbeats 4000000 in
set_option maxRecDepth 100000 in
theorem met_M_reaches (κ : ctx) (X : Nat → va_E) (F : Nat) (τ : MS) (v1 : Int32) (v2 : Int32) {out : Int32 × MS} (h : M_reaches F τ v1 v2 = some out) : Mt yM_reaches cM_reaches 3 (some .boolean) rm_M_reaches κ [.ref (κ.1 0), .int v1, .int v2] (LM κ τ X) (some (.int out.1)) (LM κ out.2 X) := by
  refine Mt.of (by decide) (Nat.le_of_ble_eq_true rfl) ?_
  intro g G Fh
  unfold M_reaches at h
  show J g κ 3 0 [(0, .ref (κ.1 0)), (1, .int v1), (2, .int v2)] [] (LM κ τ X)
  refine w_aload_n (pc := 0) (q := 0) G dM_reaches_0 rfl rfl ?_
  obtain ⟨r1, e1, h⟩ := bd h
  refine w_callV (pc := 1) (av := []) (rest := []) (v := none) (L' := (LM κ r1 X)) (T := TM) (fs := mfl κ τ) G 0 0 27 (by decide) rfl rfl cb_M_origin_M_reaches wd668 ws31 wd666 (met_M_origin κ X F τ  e1) rfl rfl rfl (Nat.le_of_ble_eq_true rfl) dM_reaches_1 ?_
  refine w_aload_n (pc := 4) (q := 0) G dM_reaches_4 rfl rfl ?_
  refine w_iload_n (pc := 5) (q := 1) G dM_reaches_5 rfl rfl ?_
  refine w_put (pc := 6) (fs := mfl κ r1) (L1 := (LM κ (s_wanted r1 (v1)) X)) G 0 (by decide) rfl rfl wsM_ok tyM tyM_ok nmM 20 (by decide) wd510 rfl rfl rfl (Nat.le_of_ble_eq_true rfl) dM_reaches_6 (LMf_wanted κ r1 X _) ?_
  refine w_aload_n (pc := 9) (q := 0) G dM_reaches_9 rfl rfl ?_
  refine w_iconst (pc := 10) (v := (0 : Int32)) G dM_reaches_10 (by decide) ?_
  refine w_put (pc := 11) (fs := mfl κ (s_wanted r1 (v1))) (L1 := (LM κ (s_spanned (s_wanted r1 (v1)) ((0 : Int32))) X)) G 0 (by decide) rfl rfl wsM_ok tyM tyM_ok nmM 21 (by decide) wd511 rfl rfl rfl (Nat.le_of_ble_eq_true rfl) dM_reaches_11 (LMf_spanned κ (s_wanted r1 (v1)) X _) ?_
  refine w_aload_n (pc := 14) (q := 0) G dM_reaches_14 rfl rfl ?_
  refine w_iconst (pc := 15) (v := (2 : Int32)) G dM_reaches_15 (by decide) ?_
  refine w_iload_n (pc := 16) (q := 2) G dM_reaches_16 rfl rfl ?_
  refine w_i2l (pc := 17) G dM_reaches_17 ?_
  obtain ⟨r18, e18, h⟩ := bd h
  refine w_callV (pc := 18) (av := [.int (2 : Int32), .long (v2).toInt64]) (rest := []) (v := none) (L' := (LM κ r18 X)) (T := TM) (fs := mfl κ (s_spanned (s_wanted r1 (v1)) ((0 : Int32)))) G 0 0 27 (by decide) rfl rfl cb_M_walk_M_reaches wd672 ws32 wd670 (met_M_walk κ X F (s_spanned (s_wanted r1 (v1)) ((0 : Int32))) (2 : Int32) ((v2).toInt64) e18) rfl rfl rfl (Nat.le_of_ble_eq_true rfl) dM_reaches_18 ?_
  refine w_aload_n (pc := 21) (q := 0) G dM_reaches_21 rfl rfl ?_
  refine w_get (pc := 22) (v := .int (m_spanned r18)) (fs := mfl κ r18) G 0 (by decide) rfl rfl wsM_ok 21 (by decide) wd511 rfl dM_reaches_22 ?_
  refine w_iload_n (pc := 25) (q := 1) G dM_reaches_25 rfl rfl ?_
  refine w_icmp_lt (pc := 26) (tgt := 33) G dM_reaches_26 (by decide) (fun c26 => ?_) (fun c26 => ?_)
  · have h := if_t c26 h
    refine w_iconst (pc := 33) (v := (0 : Int32)) G dM_reaches_33 (by decide) ?_
    obtain rfl := Option.some.inj h
    exact w_zret (pc := 34) G rfl dM_reaches_34 Fh
  · have h := if_f c26 h
    refine w_iconst (pc := 29) (v := (1 : Int32)) G dM_reaches_29 (by decide) ?_
    refine w_goto (pc := 30) (tgt := 34) G dM_reaches_30 (by decide) ?_
    obtain rfl := Option.some.inj h
    exact w_zret (pc := 34) G rfl dM_reaches_34 Fh
def rm_M_measure : Room := { frames := 8, cells := 0, slots := 0, locals := 201 }
theorem dM_measure_0 : decode cM_measure 0 = .ok (.aload_n 0, 1) := by decide +kernel
theorem dM_measure_1 : decode cM_measure 1 = .ok (.iconst (-1), 1) := by decide +kernel
theorem dM_measure_2 : decode cM_measure 2 = .ok (.invokevirtual 107, 3) := by decide +kernel
theorem dM_measure_5 : decode cM_measure 5 = .ok (.aload_n 0, 1) := by decide +kernel
theorem dM_measure_6 : decode cM_measure 6 = .ok (.getfield 60, 3) := by decide +kernel
theorem dM_measure_9 : decode cM_measure 9 = .ok (.ifCond .eq 4, 3) := by decide +kernel
theorem dM_measure_12 : decode cM_measure 12 = .ok (.return_, 1) := by decide +kernel
theorem dM_measure_13 : decode cM_measure 13 = .ok (.aload_n 0, 1) := by decide +kernel
theorem dM_measure_14 : decode cM_measure 14 = .ok (.iconst 1, 1) := by decide +kernel
theorem dM_measure_15 : decode cM_measure 15 = .ok (.putfield 60, 3) := by decide +kernel
theorem dM_measure_18 : decode cM_measure 18 = .ok (.iconst 1, 1) := by decide +kernel
theorem dM_measure_19 : decode cM_measure 19 = .ok (.istore_n 1, 1) := by decide +kernel
theorem dM_measure_20 : decode cM_measure 20 = .ok (.iload_n 1, 1) := by decide +kernel
theorem dM_measure_21 : decode cM_measure 21 = .ok (.aload_n 0, 1) := by decide +kernel
theorem dM_measure_22 : decode cM_measure 22 = .ok (.getfield 74, 3) := by decide +kernel
theorem dM_measure_25 : decode cM_measure 25 = .ok (.if_icmp .gt 108, 3) := by decide +kernel
theorem dM_measure_28 : decode cM_measure 28 = .ok (.iload_n 1, 1) := by decide +kernel
theorem dM_measure_29 : decode cM_measure 29 = .ok (.iconst 1, 1) := by decide +kernel
theorem dM_measure_30 : decode cM_measure 30 = .ok (.if_icmp .ne 7, 3) := by decide +kernel
theorem dM_measure_33 : decode cM_measure 33 = .ok (.iconst 0, 1) := by decide +kernel
theorem dM_measure_34 : decode cM_measure 34 = .ok (.goto 13, 3) := by decide +kernel
theorem dM_measure_37 : decode cM_measure 37 = .ok (.aload_n 0, 1) := by decide +kernel
theorem dM_measure_38 : decode cM_measure 38 = .ok (.getfield 47, 3) := by decide +kernel
theorem dM_measure_41 : decode cM_measure 41 = .ok (.iload_n 1, 1) := by decide +kernel
theorem dM_measure_42 : decode cM_measure 42 = .ok (.iconst 1, 1) := by decide +kernel
theorem dM_measure_43 : decode cM_measure 43 = .ok (.isub, 1) := by decide +kernel
theorem dM_measure_44 : decode cM_measure 44 = .ok (.iaload, 1) := by decide +kernel
theorem dM_measure_45 : decode cM_measure 45 = .ok (.iconst 1, 1) := by decide +kernel
theorem dM_measure_46 : decode cM_measure 46 = .ok (.isub, 1) := by decide +kernel
theorem dM_measure_47 : decode cM_measure 47 = .ok (.istore_n 2, 1) := by decide +kernel
theorem dM_measure_48 : decode cM_measure 48 = .ok (.iload_n 2, 1) := by decide +kernel
theorem dM_measure_49 : decode cM_measure 49 = .ok (.iconst 1, 1) := by decide +kernel
theorem dM_measure_50 : decode cM_measure 50 = .ok (.iadd, 1) := by decide +kernel
theorem dM_measure_51 : decode cM_measure 51 = .ok (.istore_n 3, 1) := by decide +kernel
theorem dM_measure_52 : decode cM_measure 52 = .ok (.aload_n 0, 1) := by decide +kernel
theorem dM_measure_53 : decode cM_measure 53 = .ok (.iload_n 1, 1) := by decide +kernel
theorem dM_measure_54 : decode cM_measure 54 = .ok (.iload_n 3, 1) := by decide +kernel
theorem dM_measure_55 : decode cM_measure 55 = .ok (.invokevirtual 203, 3) := by decide +kernel
theorem dM_measure_58 : decode cM_measure 58 = .ok (.ifCond .ne 12, 3) := by decide +kernel
theorem dM_measure_61 : decode cM_measure 61 = .ok (.iload_n 3, 1) := by decide +kernel
theorem dM_measure_62 : decode cM_measure 62 = .ok (.istore_n 2, 1) := by decide +kernel
theorem dM_measure_63 : decode cM_measure 63 = .ok (.iconst 2, 1) := by decide +kernel
theorem dM_measure_64 : decode cM_measure 64 = .ok (.iload_n 3, 1) := by decide +kernel
theorem dM_measure_65 : decode cM_measure 65 = .ok (.imul, 1) := by decide +kernel
theorem dM_measure_66 : decode cM_measure 66 = .ok (.istore_n 3, 1) := by decide +kernel
theorem dM_measure_67 : decode cM_measure 67 = .ok (.goto (-15), 3) := by decide +kernel
theorem dM_measure_70 : decode cM_measure 70 = .ok (.iload_n 3, 1) := by decide +kernel
theorem dM_measure_71 : decode cM_measure 71 = .ok (.iload_n 2, 1) := by decide +kernel
theorem dM_measure_72 : decode cM_measure 72 = .ok (.isub, 1) := by decide +kernel
theorem dM_measure_73 : decode cM_measure 73 = .ok (.iconst 1, 1) := by decide +kernel
theorem dM_measure_74 : decode cM_measure 74 = .ok (.if_icmp .le 46, 3) := by decide +kernel
theorem dM_measure_77 : decode cM_measure 77 = .ok (.iload_n 2, 1) := by decide +kernel
theorem dM_measure_78 : decode cM_measure 78 = .ok (.iload_n 3, 1) := by decide +kernel
theorem dM_measure_79 : decode cM_measure 79 = .ok (.iadd, 1) := by decide +kernel
theorem dM_measure_80 : decode cM_measure 80 = .ok (.iconst 2, 1) := by decide +kernel
theorem dM_measure_81 : decode cM_measure 81 = .ok (.idiv, 1) := by decide +kernel
theorem dM_measure_82 : decode cM_measure 82 = .ok (.istore 4, 2) := by decide +kernel
theorem dM_measure_84 : decode cM_measure 84 = .ok (.aload_n 0, 1) := by decide +kernel
theorem dM_measure_85 : decode cM_measure 85 = .ok (.iload_n 1, 1) := by decide +kernel
theorem dM_measure_86 : decode cM_measure 86 = .ok (.iload 4, 2) := by decide +kernel
theorem dM_measure_88 : decode cM_measure 88 = .ok (.invokevirtual 203, 3) := by decide +kernel
theorem dM_measure_91 : decode cM_measure 91 = .ok (.istore 5, 2) := by decide +kernel
theorem dM_measure_93 : decode cM_measure 93 = .ok (.iload 5, 2) := by decide +kernel
theorem dM_measure_95 : decode cM_measure 95 = .ok (.ifCond .eq 8, 3) := by decide +kernel
theorem dM_measure_98 : decode cM_measure 98 = .ok (.iload 4, 2) := by decide +kernel
theorem dM_measure_100 : decode cM_measure 100 = .ok (.goto 4, 3) := by decide +kernel
theorem dM_measure_103 : decode cM_measure 103 = .ok (.iload_n 3, 1) := by decide +kernel
theorem dM_measure_104 : decode cM_measure 104 = .ok (.istore_n 3, 1) := by decide +kernel
theorem dM_measure_105 : decode cM_measure 105 = .ok (.iload 5, 2) := by decide +kernel
theorem dM_measure_107 : decode cM_measure 107 = .ok (.ifCond .eq 7, 3) := by decide +kernel
theorem dM_measure_110 : decode cM_measure 110 = .ok (.iload_n 2, 1) := by decide +kernel
theorem dM_measure_111 : decode cM_measure 111 = .ok (.goto 5, 3) := by decide +kernel
theorem dM_measure_114 : decode cM_measure 114 = .ok (.iload 4, 2) := by decide +kernel
theorem dM_measure_116 : decode cM_measure 116 = .ok (.istore_n 2, 1) := by decide +kernel
theorem dM_measure_117 : decode cM_measure 117 = .ok (.goto (-47), 3) := by decide +kernel
theorem dM_measure_120 : decode cM_measure 120 = .ok (.aload_n 0, 1) := by decide +kernel
theorem dM_measure_121 : decode cM_measure 121 = .ok (.getfield 47, 3) := by decide +kernel
theorem dM_measure_124 : decode cM_measure 124 = .ok (.iload_n 1, 1) := by decide +kernel
theorem dM_measure_125 : decode cM_measure 125 = .ok (.iload_n 3, 1) := by decide +kernel
theorem dM_measure_126 : decode cM_measure 126 = .ok (.iastore, 1) := by decide +kernel
theorem dM_measure_127 : decode cM_measure 127 = .ok (.iinc 1 1, 3) := by decide +kernel
theorem dM_measure_130 : decode cM_measure 130 = .ok (.goto (-110), 3) := by decide +kernel
theorem dM_measure_133 : decode cM_measure 133 = .ok (.return_, 1) := by decide +kernel
theorem cb_M_look_M_measure : CB yM_look cM_look 4 none rm_M_look rm_M_measure 1 := ⟨wd598, wd8, by decide +kernel, rfl, rfl, by decide⟩
theorem cb_M_reaches_M_measure : CB yM_reaches cM_reaches 3 (some .boolean) rm_M_reaches rm_M_measure 2 := ⟨wd746, wd8, by decide +kernel, rfl, rfl, by decide⟩
noncomputable def lM_measure_52 (F : Nat) (v1 : Int32) : Nat → Int32 → Int32 → MS → Option (Int32 × Int32 × MS)
  | 0, _, _, _ => none
  | n + 1, v2, v3, τ => (M_reaches F τ v1 v3).bind (fun r55 => if r55.1 = 0 then lM_measure_52 F v1 n v3 ((2 : Int32) * v3) r55.2 else some (v2, v3, r55.2))
set_option maxHeartbeats 4000000 in
set_option maxRecDepth 100000 in
theorem lM_measure_52_ok {g : Gm} {κ : ctx} (G : OK g κ RM cM_measure 6 none rm_M_measure) (X : Nat → va_E) (F : Nat) (v1 : Int32) : ∀ (n : Nat) (v2 : Int32) (v3 : Int32) (τ : MS) (out : Int32 × Int32 × MS), lM_measure_52 F v1 n v2 v3 τ = some out → (J g κ 6 70 [(0, .ref (κ.1 0)), (1, .int v1), (2, .int out.1), (3, .int out.2.1)] [] (LM κ out.2.2 X)) → J g κ 6 52 [(0, .ref (κ.1 0)), (1, .int v1), (2, .int v2), (3, .int v3)] [] (LM κ τ X) := by
  intro n
  induction n with
  | zero =>
    intro v2 v3 τ
    intro out h
    rw [lM_measure_52] at h
    cases h
  | succ n ih =>
    intro v2 v3 τ out h K
    rw [lM_measure_52] at h
    refine w_aload_n (pc := 52) (q := 0) G dM_measure_52 rfl rfl ?_
    refine w_iload_n (pc := 53) (q := 1) G dM_measure_53 rfl rfl ?_
    refine w_iload_n (pc := 54) (q := 3) G dM_measure_54 rfl rfl ?_
    obtain ⟨r55, e55, h⟩ := bd h
    refine w_callV (pc := 55) (av := [.int v1, .int v3]) (rest := []) (v := some (.int r55.1)) (L' := (LM κ r55.2 X)) (T := TM) (fs := mfl κ τ) G 0 0 27 (by decide) rfl rfl cb_M_reaches_M_measure wd745 ws47 wd743 (met_M_reaches κ X F τ v1 v3 e55) rfl rfl rfl (Nat.le_of_ble_eq_true rfl) dM_measure_55 ?_
    refine w_if_ne (pc := 58) (tgt := 70) G dM_measure_58 (by decide) (fun c58 => ?_) (fun c58 => ?_)
    · have h := if_t c58 h
      refine w_iload_n (pc := 61) (q := 3) G dM_measure_61 rfl rfl ?_
      refine w_istore_n (pc := 62) (lv' := [(2, .int v3), (0, .ref (κ.1 0)), (1, .int v1), (3, .int v3)]) G dM_measure_62 rfl (by decide) rfl ?_
      refine w_iconst (pc := 63) (v := (2 : Int32)) G dM_measure_63 (by decide) ?_
      refine w_iload_n (pc := 64) (q := 3) G dM_measure_64 rfl rfl ?_
      refine w_imul (pc := 65) G dM_measure_65 ?_
      refine w_istore_n (pc := 66) (lv' := [(3, .int ((2 : Int32) * v3)), (2, .int v3), (0, .ref (κ.1 0)), (1, .int v1)]) G dM_measure_66 rfl (by decide) rfl ?_
      refine w_goto (pc := 67) (tgt := 52) G dM_measure_67 (by decide) ?_
      refine w_sub (lv' := [(0, .ref (κ.1 0)), (1, .int v1), (2, .int v3), (3, .int ((2 : Int32) * v3))]) [2, 3, 1, 0] rfl ?_
      exact ih v3 ((2 : Int32) * v3) r55.2 out h K
    · have h := if_f c58 h
      obtain rfl := Option.some.inj h
      refine w_sub (lv' := [(0, .ref (κ.1 0)), (1, .int v1), (2, .int v2), (3, .int v3)]) [0, 1, 2, 3] rfl ?_
      exact K
noncomputable def lM_measure_70 (F : Nat) (v1 : Int32) : Nat → Int32 → Int32 → MS → Option (Int32 × MS)
  | 0, _, _, _ => none
  | n + 1, v2, v3, τ => if (v3 - v2) ≤ (1 : Int32) then some (v3, τ) else (M_reaches F τ v1 ((v2 + v3) / (2 : Int32))).bind (fun r88 => if r88.1 = 0 then if r88.1 = 0 then lM_measure_70 F v1 n ((v2 + v3) / (2 : Int32)) v3 r88.2 else lM_measure_70 F v1 n v2 v3 r88.2 else if r88.1 = 0 then lM_measure_70 F v1 n ((v2 + v3) / (2 : Int32)) ((v2 + v3) / (2 : Int32)) r88.2 else lM_measure_70 F v1 n v2 ((v2 + v3) / (2 : Int32)) r88.2)
set_option maxHeartbeats 4000000 in
set_option maxRecDepth 100000 in
theorem lM_measure_70_ok {g : Gm} {κ : ctx} (G : OK g κ RM cM_measure 6 none rm_M_measure) (X : Nat → va_E) (F : Nat) (v1 : Int32) : ∀ (n : Nat) (v2 : Int32) (v3 : Int32) (τ : MS) (out : Int32 × MS), lM_measure_70 F v1 n v2 v3 τ = some out → (J g κ 6 120 [(0, .ref (κ.1 0)), (1, .int v1), (3, .int out.1)] [] (LM κ out.2 X)) → J g κ 6 70 [(0, .ref (κ.1 0)), (1, .int v1), (2, .int v2), (3, .int v3)] [] (LM κ τ X) := by
  intro n
  induction n with
  | zero =>
    intro v2 v3 τ
    intro out h
    rw [lM_measure_70] at h
    cases h
  | succ n ih =>
    intro v2 v3 τ out h K
    rw [lM_measure_70] at h
    refine w_iload_n (pc := 70) (q := 3) G dM_measure_70 rfl rfl ?_
    refine w_iload_n (pc := 71) (q := 2) G dM_measure_71 rfl rfl ?_
    refine w_isub (pc := 72) G dM_measure_72 ?_
    refine w_iconst (pc := 73) (v := (1 : Int32)) G dM_measure_73 (by decide) ?_
    refine w_icmp_le (pc := 74) (tgt := 120) G dM_measure_74 (by decide) (fun c74 => ?_) (fun c74 => ?_)
    · have h := if_t c74 h
      obtain rfl := Option.some.inj h
      refine w_sub (lv' := [(0, .ref (κ.1 0)), (1, .int v1), (3, .int v3)]) [0, 1, 3] rfl ?_
      exact K
    · have h := if_f c74 h
      refine w_iload_n (pc := 77) (q := 2) G dM_measure_77 rfl rfl ?_
      refine w_iload_n (pc := 78) (q := 3) G dM_measure_78 rfl rfl ?_
      refine w_iadd (pc := 79) G dM_measure_79 ?_
      refine w_iconst (pc := 80) (v := (2 : Int32)) G dM_measure_80 (by decide) ?_
      refine w_idiv (pc := 81) G dM_measure_81 (by decide) ?_
      refine w_istore (pc := 82) (lv' := [(4, .int ((v2 + v3) / (2 : Int32))), (0, .ref (κ.1 0)), (1, .int v1), (2, .int v2), (3, .int v3)]) G dM_measure_82 (by decide) rfl ?_
      refine w_aload_n (pc := 84) (q := 1) G dM_measure_84 rfl rfl ?_
      refine w_iload_n (pc := 85) (q := 2) G dM_measure_85 rfl rfl ?_
      refine w_iload (pc := 86) (q := 0) G dM_measure_86 rfl ?_
      obtain ⟨r88, e88, h⟩ := bd h
      refine w_callV (pc := 88) (av := [.int v1, .int ((v2 + v3) / (2 : Int32))]) (rest := []) (v := some (.int r88.1)) (L' := (LM κ r88.2 X)) (T := TM) (fs := mfl κ τ) G 0 0 27 (by decide) rfl rfl cb_M_reaches_M_measure wd745 ws47 wd743 (met_M_reaches κ X F τ v1 ((v2 + v3) / (2 : Int32)) e88) rfl rfl rfl (Nat.le_of_ble_eq_true rfl) dM_measure_88 ?_
      refine w_istore (pc := 91) (lv' := [(5, .int r88.1), (4, .int ((v2 + v3) / (2 : Int32))), (0, .ref (κ.1 0)), (1, .int v1), (2, .int v2), (3, .int v3)]) G dM_measure_91 (by decide) rfl ?_
      refine w_iload (pc := 93) (q := 0) G dM_measure_93 rfl ?_
      refine w_if_eq (pc := 95) (tgt := 103) G dM_measure_95 (by decide) (fun c95 => ?_) (fun c95 => ?_)
      · have h := if_t c95 h
        refine w_iload_n (pc := 103) (q := 5) G dM_measure_103 rfl rfl ?_
        refine w_istore_n (pc := 104) (lv' := [(3, .int v3), (5, .int r88.1), (4, .int ((v2 + v3) / (2 : Int32))), (0, .ref (κ.1 0)), (1, .int v1), (2, .int v2)]) G dM_measure_104 rfl (by decide) rfl ?_
        refine w_iload (pc := 105) (q := 1) G dM_measure_105 rfl ?_
        refine w_if_eq (pc := 107) (tgt := 114) G dM_measure_107 (by decide) (fun c107 => ?_) (fun c107 => ?_)
        · have h := if_t c107 h
          refine w_iload (pc := 114) (q := 2) G dM_measure_114 rfl ?_
          refine w_istore_n (pc := 116) (lv' := [(2, .int ((v2 + v3) / (2 : Int32))), (3, .int v3), (5, .int r88.1), (4, .int ((v2 + v3) / (2 : Int32))), (0, .ref (κ.1 0)), (1, .int v1)]) G dM_measure_116 rfl (by decide) rfl ?_
          refine w_goto (pc := 117) (tgt := 70) G dM_measure_117 (by decide) ?_
          refine w_sub (lv' := [(0, .ref (κ.1 0)), (1, .int v1), (2, .int ((v2 + v3) / (2 : Int32))), (3, .int v3)]) [4, 5, 0, 1] rfl ?_
          exact ih ((v2 + v3) / (2 : Int32)) v3 r88.2 out h K
        · have h := if_f c107 h
          refine w_iload_n (pc := 110) (q := 5) G dM_measure_110 rfl rfl ?_
          refine w_goto (pc := 111) (tgt := 116) G dM_measure_111 (by decide) ?_
          refine w_istore_n (pc := 116) (lv' := [(2, .int v2), (3, .int v3), (5, .int r88.1), (4, .int ((v2 + v3) / (2 : Int32))), (0, .ref (κ.1 0)), (1, .int v1)]) G dM_measure_116 rfl (by decide) rfl ?_
          refine w_goto (pc := 117) (tgt := 70) G dM_measure_117 (by decide) ?_
          refine w_sub (lv' := [(0, .ref (κ.1 0)), (1, .int v1), (2, .int v2), (3, .int v3)]) [4, 5, 0, 1] rfl ?_
          exact ih v2 v3 r88.2 out h K
      · have h := if_f c95 h
        refine w_iload (pc := 98) (q := 1) G dM_measure_98 rfl ?_
        refine w_goto (pc := 100) (tgt := 104) G dM_measure_100 (by decide) ?_
        refine w_istore_n (pc := 104) (lv' := [(3, .int ((v2 + v3) / (2 : Int32))), (5, .int r88.1), (4, .int ((v2 + v3) / (2 : Int32))), (0, .ref (κ.1 0)), (1, .int v1), (2, .int v2)]) G dM_measure_104 rfl (by decide) rfl ?_
        refine w_iload (pc := 105) (q := 1) G dM_measure_105 rfl ?_
        refine w_if_eq (pc := 107) (tgt := 114) G dM_measure_107 (by decide) (fun c107 => ?_) (fun c107 => ?_)
        · have h := if_t c107 h
          refine w_iload (pc := 114) (q := 2) G dM_measure_114 rfl ?_
          refine w_istore_n (pc := 116) (lv' := [(2, .int ((v2 + v3) / (2 : Int32))), (3, .int ((v2 + v3) / (2 : Int32))), (5, .int r88.1), (4, .int ((v2 + v3) / (2 : Int32))), (0, .ref (κ.1 0)), (1, .int v1)]) G dM_measure_116 rfl (by decide) rfl ?_
          refine w_goto (pc := 117) (tgt := 70) G dM_measure_117 (by decide) ?_
          refine w_sub (lv' := [(0, .ref (κ.1 0)), (1, .int v1), (2, .int ((v2 + v3) / (2 : Int32))), (3, .int ((v2 + v3) / (2 : Int32)))]) [4, 5, 0, 1] rfl ?_
          exact ih ((v2 + v3) / (2 : Int32)) ((v2 + v3) / (2 : Int32)) r88.2 out h K
        · have h := if_f c107 h
          refine w_iload_n (pc := 110) (q := 5) G dM_measure_110 rfl rfl ?_
          refine w_goto (pc := 111) (tgt := 116) G dM_measure_111 (by decide) ?_
          refine w_istore_n (pc := 116) (lv' := [(2, .int v2), (3, .int ((v2 + v3) / (2 : Int32))), (5, .int r88.1), (4, .int ((v2 + v3) / (2 : Int32))), (0, .ref (κ.1 0)), (1, .int v1)]) G dM_measure_116 rfl (by decide) rfl ?_
          refine w_goto (pc := 117) (tgt := 70) G dM_measure_117 (by decide) ?_
          refine w_sub (lv' := [(0, .ref (κ.1 0)), (1, .int v1), (2, .int v2), (3, .int ((v2 + v3) / (2 : Int32)))]) [4, 5, 0, 1] rfl ?_
          exact ih v2 ((v2 + v3) / (2 : Int32)) r88.2 out h K
noncomputable def lM_measure_20 (F : Nat)  : Nat → Int32 → MS → Option (MS)
  | 0, _, _ => none
  | n + 1, v1, τ => if (m_rows τ) < v1 then some (τ) else if v1 = (1 : Int32) then (lM_measure_52 F v1 F (0 : Int32) ((0 : Int32) + (1 : Int32)) τ).bind (fun o52_9 => (lM_measure_70 F v1 F o52_9.1 o52_9.2.1 o52_9.2.2).bind (fun o70_18 => gd (vp_in v1 5) (lM_measure_20 F  n (v1 + 1) (s_minima o70_18.2 (upd (m_minima o70_18.2) v1.toNatClampNeg o70_18.1))))) else gd (vp_in (v1 - (1 : Int32)) 5) ((lM_measure_52 F v1 F (((m_minima τ) (v1 - (1 : Int32)).toNatClampNeg) - (1 : Int32)) ((((m_minima τ) (v1 - (1 : Int32)).toNatClampNeg) - (1 : Int32)) + (1 : Int32)) τ).bind (fun o52_19 => (lM_measure_70 F v1 F o52_19.1 o52_19.2.1 o52_19.2.2).bind (fun o70_19 => gd (vp_in v1 5) (lM_measure_20 F  n (v1 + 1) (s_minima o70_19.2 (upd (m_minima o70_19.2) v1.toNatClampNeg o70_19.1))))))
set_option maxHeartbeats 4000000 in
set_option maxRecDepth 100000 in
theorem lM_measure_20_ok {g : Gm} {κ : ctx} (G : OK g κ RM cM_measure 6 none rm_M_measure) (X : Nat → va_E) (F : Nat)  : ∀ (n : Nat) (v1 : Int32) (τ : MS) (out : MS), lM_measure_20 F  n v1 τ = some out → (J g κ 6 133 [] [] (LM κ out X)) → J g κ 6 20 [(0, .ref (κ.1 0)), (1, .int v1)] [] (LM κ τ X) := by
  intro n
  induction n with
  | zero =>
    intro v1 τ
    intro out h
    rw [lM_measure_20] at h
    cases h
  | succ n ih =>
    intro v1 τ out h K
    rw [lM_measure_20] at h
    refine w_iload_n (pc := 20) (q := 1) G dM_measure_20 rfl rfl ?_
    refine w_aload_n (pc := 21) (q := 0) G dM_measure_21 rfl rfl ?_
    refine w_get (pc := 22) (v := .int (m_rows τ)) (fs := mfl κ τ) G 0 (by decide) rfl rfl wsM_ok 4 (by decide) wd494 rfl dM_measure_22 ?_
    refine w_icmp_gt (pc := 25) (tgt := 133) G dM_measure_25 (by decide) (fun c25 => ?_) (fun c25 => ?_)
    · have h := if_t c25 h
      obtain rfl := Option.some.inj h
      refine w_sub (lv' := []) [] rfl ?_
      exact K
    · have h := if_f c25 h
      refine w_iload_n (pc := 28) (q := 1) G dM_measure_28 rfl rfl ?_
      refine w_iconst (pc := 29) (v := (1 : Int32)) G dM_measure_29 (by decide) ?_
      refine w_icmp_ne (pc := 30) (tgt := 37) G dM_measure_30 (by decide) (fun c30 => ?_) (fun c30 => ?_)
      · have h := if_t c30 h
        refine w_iconst (pc := 33) (v := (0 : Int32)) G dM_measure_33 (by decide) ?_
        refine w_goto (pc := 34) (tgt := 47) G dM_measure_34 (by decide) ?_
        refine w_istore_n (pc := 47) (lv' := [(2, .int (0 : Int32)), (0, .ref (κ.1 0)), (1, .int v1)]) G dM_measure_47 rfl (by decide) rfl ?_
        refine w_iload_n (pc := 48) (q := 0) G dM_measure_48 rfl rfl ?_
        refine w_iconst (pc := 49) (v := (1 : Int32)) G dM_measure_49 (by decide) ?_
        refine w_iadd (pc := 50) G dM_measure_50 ?_
        refine w_istore_n (pc := 51) (lv' := [(3, .int ((0 : Int32) + (1 : Int32))), (2, .int (0 : Int32)), (0, .ref (κ.1 0)), (1, .int v1)]) G dM_measure_51 rfl (by decide) rfl ?_
        refine w_sub (lv' := [(0, .ref (κ.1 0)), (1, .int v1), (2, .int (0 : Int32)), (3, .int ((0 : Int32) + (1 : Int32)))]) [2, 3, 1, 0] rfl ?_
        obtain ⟨o52_9, eo52_9, h⟩ := bd h
        refine lM_measure_52_ok G X F v1 F (0 : Int32) ((0 : Int32) + (1 : Int32)) τ o52_9 eo52_9 ?_
        refine w_sub (lv' := [(0, .ref (κ.1 0)), (1, .int v1), (2, .int o52_9.1), (3, .int o52_9.2.1)]) [0, 1, 2, 3] rfl ?_
        obtain ⟨o70_18, eo70_18, h⟩ := bd h
        refine lM_measure_70_ok G X F v1 F o52_9.1 o52_9.2.1 o52_9.2.2 o70_18 eo70_18 ?_
        refine w_aload_n (pc := 120) (q := 0) G dM_measure_120 rfl rfl ?_
        refine w_get (pc := 121) (v := .ref (κ.1 13)) (fs := mfl κ o70_18.2) G 0 (by decide) rfl rfl wsM_ok 23 (by decide) wd513 rfl dM_measure_121 ?_
        refine w_iload_n (pc := 124) (q := 1) G dM_measure_124 rfl rfl ?_
        refine w_iload_n (pc := 125) (q := 2) G dM_measure_125 rfl rfl ?_
        obtain ⟨i126, h⟩ := gd_some h
        refine w_iast (pc := 126) (n := 5) (f := (m_minima o70_18.2)) (L1 := (LM κ (s_minima o70_18.2 (upd (m_minima o70_18.2) v1.toNatClampNeg o70_18.1)) X)) G 13 (by decide) rfl i126 dM_measure_126 (LM_minima κ o70_18.2 X _) ?_
        refine w_iinc (pc := 127) (q0 := 1) (v := (v1 + 1)) (lv' := [(1, .int (v1 + 1)), (0, .ref (κ.1 0)), (3, .int o70_18.1)]) G dM_measure_127 rfl rfl (by decide) rfl ?_
        refine w_goto (pc := 130) (tgt := 20) G dM_measure_130 (by decide) ?_
        refine w_sub (lv' := [(0, .ref (κ.1 0)), (1, .int (v1 + 1))]) [1, 0] rfl ?_
        exact ih (v1 + 1) (s_minima o70_18.2 (upd (m_minima o70_18.2) v1.toNatClampNeg o70_18.1)) out h K
      · have h := if_f c30 h
        refine w_aload_n (pc := 37) (q := 0) G dM_measure_37 rfl rfl ?_
        refine w_get (pc := 38) (v := .ref (κ.1 13)) (fs := mfl κ τ) G 0 (by decide) rfl rfl wsM_ok 23 (by decide) wd513 rfl dM_measure_38 ?_
        refine w_iload_n (pc := 41) (q := 1) G dM_measure_41 rfl rfl ?_
        refine w_iconst (pc := 42) (v := (1 : Int32)) G dM_measure_42 (by decide) ?_
        refine w_isub (pc := 43) G dM_measure_43 ?_
        obtain ⟨i44, h⟩ := gd_some h
        refine w_iald (pc := 44) (n := 5) (f := (m_minima τ)) G 13 (by decide) rfl i44 dM_measure_44 ?_
        refine w_iconst (pc := 45) (v := (1 : Int32)) G dM_measure_45 (by decide) ?_
        refine w_isub (pc := 46) G dM_measure_46 ?_
        refine w_istore_n (pc := 47) (lv' := [(2, .int (((m_minima τ) (v1 - (1 : Int32)).toNatClampNeg) - (1 : Int32))), (0, .ref (κ.1 0)), (1, .int v1)]) G dM_measure_47 rfl (by decide) rfl ?_
        refine w_iload_n (pc := 48) (q := 0) G dM_measure_48 rfl rfl ?_
        refine w_iconst (pc := 49) (v := (1 : Int32)) G dM_measure_49 (by decide) ?_
        refine w_iadd (pc := 50) G dM_measure_50 ?_
        refine w_istore_n (pc := 51) (lv' := [(3, .int ((((m_minima τ) (v1 - (1 : Int32)).toNatClampNeg) - (1 : Int32)) + (1 : Int32))), (2, .int (((m_minima τ) (v1 - (1 : Int32)).toNatClampNeg) - (1 : Int32))), (0, .ref (κ.1 0)), (1, .int v1)]) G dM_measure_51 rfl (by decide) rfl ?_
        refine w_sub (lv' := [(0, .ref (κ.1 0)), (1, .int v1), (2, .int (((m_minima τ) (v1 - (1 : Int32)).toNatClampNeg) - (1 : Int32))), (3, .int ((((m_minima τ) (v1 - (1 : Int32)).toNatClampNeg) - (1 : Int32)) + (1 : Int32)))]) [2, 3, 1, 0] rfl ?_
        obtain ⟨o52_19, eo52_19, h⟩ := bd h
        refine lM_measure_52_ok G X F v1 F (((m_minima τ) (v1 - (1 : Int32)).toNatClampNeg) - (1 : Int32)) ((((m_minima τ) (v1 - (1 : Int32)).toNatClampNeg) - (1 : Int32)) + (1 : Int32)) τ o52_19 eo52_19 ?_
        refine w_sub (lv' := [(0, .ref (κ.1 0)), (1, .int v1), (2, .int o52_19.1), (3, .int o52_19.2.1)]) [0, 1, 2, 3] rfl ?_
        obtain ⟨o70_19, eo70_19, h⟩ := bd h
        refine lM_measure_70_ok G X F v1 F o52_19.1 o52_19.2.1 o52_19.2.2 o70_19 eo70_19 ?_
        refine w_aload_n (pc := 120) (q := 0) G dM_measure_120 rfl rfl ?_
        refine w_get (pc := 121) (v := .ref (κ.1 13)) (fs := mfl κ o70_19.2) G 0 (by decide) rfl rfl wsM_ok 23 (by decide) wd513 rfl dM_measure_121 ?_
        refine w_iload_n (pc := 124) (q := 1) G dM_measure_124 rfl rfl ?_
        refine w_iload_n (pc := 125) (q := 2) G dM_measure_125 rfl rfl ?_
        obtain ⟨i126, h⟩ := gd_some h
        refine w_iast (pc := 126) (n := 5) (f := (m_minima o70_19.2)) (L1 := (LM κ (s_minima o70_19.2 (upd (m_minima o70_19.2) v1.toNatClampNeg o70_19.1)) X)) G 13 (by decide) rfl i126 dM_measure_126 (LM_minima κ o70_19.2 X _) ?_
        refine w_iinc (pc := 127) (q0 := 1) (v := (v1 + 1)) (lv' := [(1, .int (v1 + 1)), (0, .ref (κ.1 0)), (3, .int o70_19.1)]) G dM_measure_127 rfl rfl (by decide) rfl ?_
        refine w_goto (pc := 130) (tgt := 20) G dM_measure_130 (by decide) ?_
        refine w_sub (lv' := [(0, .ref (κ.1 0)), (1, .int (v1 + 1))]) [1, 0] rfl ?_
        exact ih (v1 + 1) (s_minima o70_19.2 (upd (m_minima o70_19.2) v1.toNatClampNeg o70_19.1)) out h K
noncomputable def M_measure (F : Nat) (τ : MS)  : Option (MS) := (M_look F τ (-1 : Int32)).bind (fun r2 => if (m_measured r2) = 0 then (lM_measure_20 F  F (1 : Int32) (s_measured r2 ((1 : Int32)))).bind (fun o20_19 => some o20_19) else some r2)
set_option maxHeartbeats 4000000 in
set_option maxRecDepth 100000 in
theorem met_M_measure (κ : ctx) (X : Nat → va_E) (F : Nat) (τ : MS)  {out : MS} (h : M_measure F τ  = some out) : Mt yM_measure cM_measure 6 none rm_M_measure κ [.ref (κ.1 0)] (LM κ τ X) none (LM κ out X) := by
  refine Mt.of (by decide) (Nat.le_of_ble_eq_true rfl) ?_
  intro g G Fh
  unfold M_measure at h
  show J g κ 6 0 [(0, .ref (κ.1 0))] [] (LM κ τ X)
  refine w_aload_n (pc := 0) (q := 0) G dM_measure_0 rfl rfl ?_
  refine w_iconst (pc := 1) (v := (-1 : Int32)) G dM_measure_1 (by decide) ?_
  obtain ⟨r2, e2, h⟩ := bd h
  refine w_callV (pc := 2) (av := [.int (-1 : Int32)]) (rest := []) (v := none) (L' := (LM κ r2 X)) (T := TM) (fs := mfl κ τ) G 0 0 27 (by decide) rfl rfl cb_M_look_M_measure wd597 ws20 wd595 (met_M_look κ X F τ (-1 : Int32) e2) rfl rfl rfl (Nat.le_of_ble_eq_true rfl) dM_measure_2 ?_
  refine w_aload_n (pc := 5) (q := 0) G dM_measure_5 rfl rfl ?_
  refine w_get (pc := 6) (v := .int (m_measured r2)) (fs := mfl κ r2) G 0 (by decide) rfl rfl wsM_ok 24 (by decide) wd514 rfl dM_measure_6 ?_
  refine w_if_eq (pc := 9) (tgt := 13) G dM_measure_9 (by decide) (fun c9 => ?_) (fun c9 => ?_)
  · have h := if_t c9 h
    refine w_aload_n (pc := 13) (q := 0) G dM_measure_13 rfl rfl ?_
    refine w_iconst (pc := 14) (v := (1 : Int32)) G dM_measure_14 (by decide) ?_
    refine w_put (pc := 15) (fs := mfl κ r2) (L1 := (LM κ (s_measured r2 ((1 : Int32))) X)) G 0 (by decide) rfl rfl wsM_ok tyM tyM_ok nmM 24 (by decide) wd514 rfl rfl rfl (Nat.le_of_ble_eq_true rfl) dM_measure_15 (LMf_measured κ r2 X _) ?_
    refine w_iconst (pc := 18) (v := (1 : Int32)) G dM_measure_18 (by decide) ?_
    refine w_istore_n (pc := 19) (lv' := [(1, .int (1 : Int32)), (0, .ref (κ.1 0))]) G dM_measure_19 rfl (by decide) rfl ?_
    refine w_sub (lv' := [(0, .ref (κ.1 0)), (1, .int (1 : Int32))]) [1, 0] rfl ?_
    obtain ⟨o20_19, eo20_19, h⟩ := bd h
    refine lM_measure_20_ok G X F  F (1 : Int32) (s_measured r2 ((1 : Int32))) o20_19 eo20_19 ?_
    obtain rfl := Option.some.inj h
    exact w_vret (pc := 133) G dM_measure_133 Fh
  · have h := if_f c9 h
    obtain rfl := Option.some.inj h
    exact w_vret (pc := 12) G dM_measure_12 Fh
def rm_M_minimum : Room := { frames := 9, cells := 0, slots := 0, locals := 226 }
theorem dM_minimum_0 : decode cM_minimum 0 = .ok (.aload_n 0, 1) := by decide +kernel
theorem dM_minimum_1 : decode cM_minimum 1 = .ok (.iconst (-1), 1) := by decide +kernel
theorem dM_minimum_2 : decode cM_minimum 2 = .ok (.invokevirtual 107, 3) := by decide +kernel
theorem dM_minimum_5 : decode cM_minimum 5 = .ok (.iload_n 1, 1) := by decide +kernel
theorem dM_minimum_6 : decode cM_minimum 6 = .ok (.iconst 1, 1) := by decide +kernel
theorem dM_minimum_7 : decode cM_minimum 7 = .ok (.if_icmp .lt 11, 3) := by decide +kernel
theorem dM_minimum_10 : decode cM_minimum 10 = .ok (.iload_n 1, 1) := by decide +kernel
theorem dM_minimum_11 : decode cM_minimum 11 = .ok (.aload_n 0, 1) := by decide +kernel
theorem dM_minimum_12 : decode cM_minimum 12 = .ok (.getfield 74, 3) := by decide +kernel
theorem dM_minimum_15 : decode cM_minimum 15 = .ok (.if_icmp .le 5, 3) := by decide +kernel
theorem dM_minimum_18 : decode cM_minimum 18 = .ok (.iconst (-1), 1) := by decide +kernel
theorem dM_minimum_19 : decode cM_minimum 19 = .ok (.ireturn, 1) := by decide +kernel
theorem dM_minimum_20 : decode cM_minimum 20 = .ok (.aload_n 0, 1) := by decide +kernel
theorem dM_minimum_21 : decode cM_minimum 21 = .ok (.invokevirtual 207, 3) := by decide +kernel
theorem dM_minimum_24 : decode cM_minimum 24 = .ok (.aload_n 0, 1) := by decide +kernel
theorem dM_minimum_25 : decode cM_minimum 25 = .ok (.getfield 47, 3) := by decide +kernel
theorem dM_minimum_28 : decode cM_minimum 28 = .ok (.iload_n 1, 1) := by decide +kernel
theorem dM_minimum_29 : decode cM_minimum 29 = .ok (.iaload, 1) := by decide +kernel
theorem dM_minimum_30 : decode cM_minimum 30 = .ok (.ireturn, 1) := by decide +kernel
theorem cb_M_look_M_minimum : CB yM_look cM_look 4 none rm_M_look rm_M_minimum 1 := ⟨wd598, wd8, by decide +kernel, rfl, rfl, by decide⟩
theorem cb_M_measure_M_minimum : CB yM_measure cM_measure 6 none rm_M_measure rm_M_minimum 0 := ⟨wd742, wd8, by decide +kernel, rfl, rfl, by decide⟩
noncomputable def M_minimum (F : Nat) (τ : MS) (v1 : Int32) : Option (Int32 × MS) := (M_look F τ (-1 : Int32)).bind (fun r2 => if v1 < (1 : Int32) then some ((-1 : Int32), r2) else if v1 ≤ (m_rows r2) then (M_measure F r2 ).bind (fun r21 => gd (vp_in v1 5) (some (((m_minima r21) v1.toNatClampNeg), r21))) else some ((-1 : Int32), r2))
set_option maxHeartbeats 4000000 in
set_option maxRecDepth 100000 in
theorem met_M_minimum (κ : ctx) (X : Nat → va_E) (F : Nat) (τ : MS) (v1 : Int32) {out : Int32 × MS} (h : M_minimum F τ v1 = some out) : Mt yM_minimum cM_minimum 2 (some .int) rm_M_minimum κ [.ref (κ.1 0), .int v1] (LM κ τ X) (some (.int out.1)) (LM κ out.2 X) := by
  refine Mt.of (by decide) (Nat.le_of_ble_eq_true rfl) ?_
  intro g G Fh
  unfold M_minimum at h
  show J g κ 2 0 [(0, .ref (κ.1 0)), (1, .int v1)] [] (LM κ τ X)
  refine w_aload_n (pc := 0) (q := 0) G dM_minimum_0 rfl rfl ?_
  refine w_iconst (pc := 1) (v := (-1 : Int32)) G dM_minimum_1 (by decide) ?_
  obtain ⟨r2, e2, h⟩ := bd h
  refine w_callV (pc := 2) (av := [.int (-1 : Int32)]) (rest := []) (v := none) (L' := (LM κ r2 X)) (T := TM) (fs := mfl κ τ) G 0 0 27 (by decide) rfl rfl cb_M_look_M_minimum wd597 ws20 wd595 (met_M_look κ X F τ (-1 : Int32) e2) rfl rfl rfl (Nat.le_of_ble_eq_true rfl) dM_minimum_2 ?_
  refine w_iload_n (pc := 5) (q := 1) G dM_minimum_5 rfl rfl ?_
  refine w_iconst (pc := 6) (v := (1 : Int32)) G dM_minimum_6 (by decide) ?_
  refine w_icmp_lt (pc := 7) (tgt := 18) G dM_minimum_7 (by decide) (fun c7 => ?_) (fun c7 => ?_)
  · have h := if_t c7 h
    refine w_iconst (pc := 18) (v := (-1 : Int32)) G dM_minimum_18 (by decide) ?_
    obtain rfl := Option.some.inj h
    exact w_iret (pc := 19) G dM_minimum_19 Fh
  · have h := if_f c7 h
    refine w_iload_n (pc := 10) (q := 1) G dM_minimum_10 rfl rfl ?_
    refine w_aload_n (pc := 11) (q := 0) G dM_minimum_11 rfl rfl ?_
    refine w_get (pc := 12) (v := .int (m_rows r2)) (fs := mfl κ r2) G 0 (by decide) rfl rfl wsM_ok 4 (by decide) wd494 rfl dM_minimum_12 ?_
    refine w_icmp_le (pc := 15) (tgt := 20) G dM_minimum_15 (by decide) (fun c15 => ?_) (fun c15 => ?_)
    · have h := if_t c15 h
      refine w_aload_n (pc := 20) (q := 0) G dM_minimum_20 rfl rfl ?_
      obtain ⟨r21, e21, h⟩ := bd h
      refine w_callV (pc := 21) (av := []) (rest := []) (v := none) (L' := (LM κ r21 X)) (T := TM) (fs := mfl κ r2) G 0 0 27 (by decide) rfl rfl cb_M_measure_M_minimum wd741 ws46 wd739 (met_M_measure κ X F r2  e21) rfl rfl rfl (Nat.le_of_ble_eq_true rfl) dM_minimum_21 ?_
      refine w_aload_n (pc := 24) (q := 0) G dM_minimum_24 rfl rfl ?_
      refine w_get (pc := 25) (v := .ref (κ.1 13)) (fs := mfl κ r21) G 0 (by decide) rfl rfl wsM_ok 23 (by decide) wd513 rfl dM_minimum_25 ?_
      refine w_iload_n (pc := 28) (q := 1) G dM_minimum_28 rfl rfl ?_
      obtain ⟨i29, h⟩ := gd_some h
      refine w_iald (pc := 29) (n := 5) (f := (m_minima r21)) G 13 (by decide) rfl i29 dM_minimum_29 ?_
      obtain rfl := Option.some.inj h
      exact w_iret (pc := 30) G dM_minimum_30 Fh
    · have h := if_f c15 h
      refine w_iconst (pc := 18) (v := (-1 : Int32)) G dM_minimum_18 (by decide) ?_
      obtain rfl := Option.some.inj h
      exact w_iret (pc := 19) G dM_minimum_19 Fh
def rm_M_seek : Room := { frames := 7, cells := 0, slots := 0, locals := 179 }
theorem dM_seek_0 : decode cM_seek 0 = .ok (.aload_n 0, 1) := by decide +kernel
theorem dM_seek_1 : decode cM_seek 1 = .ok (.iconst (-1), 1) := by decide +kernel
theorem dM_seek_2 : decode cM_seek 2 = .ok (.invokevirtual 107, 3) := by decide +kernel
theorem dM_seek_5 : decode cM_seek 5 = .ok (.aload_n 0, 1) := by decide +kernel
theorem dM_seek_6 : decode cM_seek 6 = .ok (.getfield 35, 3) := by decide +kernel
theorem dM_seek_9 : decode cM_seek 9 = .ok (.iconst 0, 1) := by decide +kernel
theorem dM_seek_10 : decode cM_seek 10 = .ok (.iload_n 1, 1) := by decide +kernel
theorem dM_seek_11 : decode cM_seek 11 = .ok (.i2l, 1) := by decide +kernel
theorem dM_seek_12 : decode cM_seek 12 = .ok (.lastore, 1) := by decide +kernel
theorem dM_seek_13 : decode cM_seek 13 = .ok (.aload_n 0, 1) := by decide +kernel
theorem dM_seek_14 : decode cM_seek 14 = .ok (.getfield 35, 3) := by decide +kernel
theorem dM_seek_17 : decode cM_seek 17 = .ok (.iconst 1, 1) := by decide +kernel
theorem dM_seek_18 : decode cM_seek 18 = .ok (.iload_n 2, 1) := by decide +kernel
theorem dM_seek_19 : decode cM_seek 19 = .ok (.i2l, 1) := by decide +kernel
theorem dM_seek_20 : decode cM_seek 20 = .ok (.lastore, 1) := by decide +kernel
theorem dM_seek_21 : decode cM_seek 21 = .ok (.aload_n 0, 1) := by decide +kernel
theorem dM_seek_22 : decode cM_seek 22 = .ok (.getfield 35, 3) := by decide +kernel
theorem dM_seek_25 : decode cM_seek 25 = .ok (.iconst 2, 1) := by decide +kernel
theorem dM_seek_26 : decode cM_seek 26 = .ok (.iload_n 3, 1) := by decide +kernel
theorem dM_seek_27 : decode cM_seek 27 = .ok (.i2l, 1) := by decide +kernel
theorem dM_seek_28 : decode cM_seek 28 = .ok (.lastore, 1) := by decide +kernel
theorem dM_seek_29 : decode cM_seek 29 = .ok (.aload_n 0, 1) := by decide +kernel
theorem dM_seek_30 : decode cM_seek 30 = .ok (.getfield 35, 3) := by decide +kernel
theorem dM_seek_33 : decode cM_seek 33 = .ok (.iconst 3, 1) := by decide +kernel
theorem dM_seek_34 : decode cM_seek 34 = .ok (.iload 4, 2) := by decide +kernel
theorem dM_seek_36 : decode cM_seek 36 = .ok (.i2l, 1) := by decide +kernel
theorem dM_seek_37 : decode cM_seek 37 = .ok (.lastore, 1) := by decide +kernel
theorem dM_seek_38 : decode cM_seek 38 = .ok (.aload_n 0, 1) := by decide +kernel
theorem dM_seek_39 : decode cM_seek 39 = .ok (.iconst 0, 1) := by decide +kernel
theorem dM_seek_40 : decode cM_seek 40 = .ok (.putfield 210, 3) := by decide +kernel
theorem dM_seek_43 : decode cM_seek 43 = .ok (.lconst 1, 1) := by decide +kernel
theorem dM_seek_44 : decode cM_seek 44 = .ok (.lstore 5, 2) := by decide +kernel
theorem dM_seek_46 : decode cM_seek 46 = .ok (.aload_n 0, 1) := by decide +kernel
theorem dM_seek_47 : decode cM_seek 47 = .ok (.getfield 210, 3) := by decide +kernel
theorem dM_seek_50 : decode cM_seek 50 = .ok (.ifCond .ne 21, 3) := by decide +kernel
theorem dM_seek_53 : decode cM_seek 53 = .ok (.aload_n 0, 1) := by decide +kernel
theorem dM_seek_54 : decode cM_seek 54 = .ok (.iconst 3, 1) := by decide +kernel
theorem dM_seek_55 : decode cM_seek 55 = .ok (.lload 5, 2) := by decide +kernel
theorem dM_seek_57 : decode cM_seek 57 = .ok (.invokevirtual 184, 3) := by decide +kernel
theorem dM_seek_60 : decode cM_seek 60 = .ok (.ldc2_w 130, 3) := by decide +kernel
theorem dM_seek_63 : decode cM_seek 63 = .ok (.lload 5, 2) := by decide +kernel
theorem dM_seek_65 : decode cM_seek 65 = .ok (.lmul, 1) := by decide +kernel
theorem dM_seek_66 : decode cM_seek 66 = .ok (.lstore 5, 2) := by decide +kernel
theorem dM_seek_68 : decode cM_seek 68 = .ok (.goto (-22), 3) := by decide +kernel
theorem dM_seek_71 : decode cM_seek 71 = .ok (.return_, 1) := by decide +kernel
theorem cb_M_look_M_seek : CB yM_look cM_look 4 none rm_M_look rm_M_seek 1 := ⟨wd598, wd8, by decide +kernel, rfl, rfl, by decide⟩
theorem cb_M_walk_M_seek : CB yM_walk cM_walk 5 none rm_M_walk rm_M_seek 2 := ⟨wd673, wd8, by decide +kernel, rfl, rfl, by decide⟩
noncomputable def lM_seek_46 (F : Nat)  : Nat → Int64 → MS → Option (MS)
  | 0, _, _ => none
  | n + 1, v5, τ => if (m_any τ) = 0 then (M_walk F τ (3 : Int32) v5).bind (fun r57 => lM_seek_46 F  n ((2 : Int64) * v5) r57) else some (τ)
set_option maxHeartbeats 4000000 in
set_option maxRecDepth 100000 in
theorem lM_seek_46_ok {g : Gm} {κ : ctx} (G : OK g κ RM cM_seek 7 none rm_M_seek) (X : Nat → va_E) (F : Nat)  : ∀ (n : Nat) (v5 : Int64) (τ : MS) (out : MS), lM_seek_46 F  n v5 τ = some out → (J g κ 7 71 [] [] (LM κ out X)) → J g κ 7 46 [(0, .ref (κ.1 0)), (5, .long v5)] [] (LM κ τ X) := by
  intro n
  induction n with
  | zero =>
    intro v5 τ
    intro out h
    rw [lM_seek_46] at h
    cases h
  | succ n ih =>
    intro v5 τ out h K
    rw [lM_seek_46] at h
    refine w_aload_n (pc := 46) (q := 0) G dM_seek_46 rfl rfl ?_
    refine w_get (pc := 47) (v := .int (m_any τ)) (fs := mfl κ τ) G 0 (by decide) rfl rfl wsM_ok 26 (by decide) wd516 rfl dM_seek_47 ?_
    refine w_if_ne (pc := 50) (tgt := 71) G dM_seek_50 (by decide) (fun c50 => ?_) (fun c50 => ?_)
    · have h := if_t c50 h
      refine w_aload_n (pc := 53) (q := 0) G dM_seek_53 rfl rfl ?_
      refine w_iconst (pc := 54) (v := (3 : Int32)) G dM_seek_54 (by decide) ?_
      refine w_lload (pc := 55) (q := 1) G dM_seek_55 rfl ?_
      obtain ⟨r57, e57, h⟩ := bd h
      refine w_callV (pc := 57) (av := [.int (3 : Int32), .long v5]) (rest := []) (v := none) (L' := (LM κ r57 X)) (T := TM) (fs := mfl κ τ) G 0 0 27 (by decide) rfl rfl cb_M_walk_M_seek wd672 ws32 wd670 (met_M_walk κ X F τ (3 : Int32) v5 e57) rfl rfl rfl (Nat.le_of_ble_eq_true rfl) dM_seek_57 ?_
      refine w_ldc2 (pc := 60) (v := (2 : Int64)) G wd710 dM_seek_60 ?_
      refine w_lload (pc := 63) (q := 1) G dM_seek_63 rfl ?_
      refine w_lmul (pc := 65) G dM_seek_65 ?_
      refine w_lstore (pc := 66) (lv' := [(5, .long ((2 : Int64) * v5)), (0, .ref (κ.1 0))]) G dM_seek_66 (by decide) rfl ?_
      refine w_goto (pc := 68) (tgt := 46) G dM_seek_68 (by decide) ?_
      refine w_sub (lv' := [(0, .ref (κ.1 0)), (5, .long ((2 : Int64) * v5))]) [1, 0] rfl ?_
      exact ih ((2 : Int64) * v5) r57 out h K
    · have h := if_f c50 h
      obtain rfl := Option.some.inj h
      refine w_sub (lv' := []) [] rfl ?_
      exact K
noncomputable def M_seek (F : Nat) (τ : MS) (v1 : Int32) (v2 : Int32) (v3 : Int32) (v4 : Int32) : Option (MS) := (M_look F τ (-1 : Int32)).bind (fun r2 => gd (vp_in (0 : Int32) 4) (gd (vp_in (1 : Int32) 4) (gd (vp_in (2 : Int32) 4) (gd (vp_in (3 : Int32) 4) ((lM_seek_46 F  F (1 : Int64) (s_any (s_point r2 (vp_updL (vp_updL (vp_updL (vp_updL (m_point r2) (0 : Int32).toNatClampNeg ((v1).toInt64)) (1 : Int32).toNatClampNeg ((v2).toInt64)) (2 : Int32).toNatClampNeg ((v3).toInt64)) (3 : Int32).toNatClampNeg ((v4).toInt64))) ((0 : Int32)))).bind (fun o46_4 => some o46_4))))))
set_option maxHeartbeats 4000000 in
set_option maxRecDepth 100000 in
theorem met_M_seek (κ : ctx) (X : Nat → va_E) (F : Nat) (τ : MS) (v1 : Int32) (v2 : Int32) (v3 : Int32) (v4 : Int32) {out : MS} (h : M_seek F τ v1 v2 v3 v4 = some out) : Mt yM_seek cM_seek 7 none rm_M_seek κ [.ref (κ.1 0), .int v1, .int v2, .int v3, .int v4] (LM κ τ X) none (LM κ out X) := by
  refine Mt.of (by decide) (Nat.le_of_ble_eq_true rfl) ?_
  intro g G Fh
  unfold M_seek at h
  show J g κ 7 0 [(0, .ref (κ.1 0)), (1, .int v1), (2, .int v2), (3, .int v3), (4, .int v4)] [] (LM κ τ X)
  refine w_aload_n (pc := 0) (q := 0) G dM_seek_0 rfl rfl ?_
  refine w_iconst (pc := 1) (v := (-1 : Int32)) G dM_seek_1 (by decide) ?_
  obtain ⟨r2, e2, h⟩ := bd h
  refine w_callV (pc := 2) (av := [.int (-1 : Int32)]) (rest := []) (v := none) (L' := (LM κ r2 X)) (T := TM) (fs := mfl κ τ) G 0 0 27 (by decide) rfl rfl cb_M_look_M_seek wd597 ws20 wd595 (met_M_look κ X F τ (-1 : Int32) e2) rfl rfl rfl (Nat.le_of_ble_eq_true rfl) dM_seek_2 ?_
  refine w_aload_n (pc := 5) (q := 0) G dM_seek_5 rfl rfl ?_
  refine w_get (pc := 6) (v := .ref (κ.1 9)) (fs := mfl κ r2) G 0 (by decide) rfl rfl wsM_ok 12 (by decide) wd502 rfl dM_seek_6 ?_
  refine w_iconst (pc := 9) (v := (0 : Int32)) G dM_seek_9 (by decide) ?_
  refine w_iload_n (pc := 10) (q := 1) G dM_seek_10 rfl rfl ?_
  refine w_i2l (pc := 11) G dM_seek_11 ?_
  obtain ⟨i12, h⟩ := gd_some h
  refine w_last (pc := 12) (n := 4) (f := (m_point r2)) (L1 := (LM κ (s_point r2 (vp_updL (m_point r2) (0 : Int32).toNatClampNeg ((v1).toInt64))) X)) G 9 (by decide) rfl i12 dM_seek_12 (LM_point κ r2 X _) ?_
  refine w_aload_n (pc := 13) (q := 0) G dM_seek_13 rfl rfl ?_
  refine w_get (pc := 14) (v := .ref (κ.1 9)) (fs := mfl κ (s_point r2 (vp_updL (m_point r2) (0 : Int32).toNatClampNeg ((v1).toInt64)))) G 0 (by decide) rfl rfl wsM_ok 12 (by decide) wd502 rfl dM_seek_14 ?_
  refine w_iconst (pc := 17) (v := (1 : Int32)) G dM_seek_17 (by decide) ?_
  refine w_iload_n (pc := 18) (q := 2) G dM_seek_18 rfl rfl ?_
  refine w_i2l (pc := 19) G dM_seek_19 ?_
  obtain ⟨i20, h⟩ := gd_some h
  refine w_last (pc := 20) (n := 4) (f := vp_updL (m_point r2) (0 : Int32).toNatClampNeg ((v1).toInt64)) (L1 := (LM κ (s_point r2 (vp_updL (vp_updL (m_point r2) (0 : Int32).toNatClampNeg ((v1).toInt64)) (1 : Int32).toNatClampNeg ((v2).toInt64))) X)) G 9 (by decide) rfl i20 dM_seek_20 (LM_point κ (s_point r2 (vp_updL (m_point r2) (0 : Int32).toNatClampNeg ((v1).toInt64))) X _) ?_
  refine w_aload_n (pc := 21) (q := 0) G dM_seek_21 rfl rfl ?_
  refine w_get (pc := 22) (v := .ref (κ.1 9)) (fs := mfl κ (s_point r2 (vp_updL (vp_updL (m_point r2) (0 : Int32).toNatClampNeg ((v1).toInt64)) (1 : Int32).toNatClampNeg ((v2).toInt64)))) G 0 (by decide) rfl rfl wsM_ok 12 (by decide) wd502 rfl dM_seek_22 ?_
  refine w_iconst (pc := 25) (v := (2 : Int32)) G dM_seek_25 (by decide) ?_
  refine w_iload_n (pc := 26) (q := 3) G dM_seek_26 rfl rfl ?_
  refine w_i2l (pc := 27) G dM_seek_27 ?_
  obtain ⟨i28, h⟩ := gd_some h
  refine w_last (pc := 28) (n := 4) (f := vp_updL (vp_updL (m_point r2) (0 : Int32).toNatClampNeg ((v1).toInt64)) (1 : Int32).toNatClampNeg ((v2).toInt64)) (L1 := (LM κ (s_point r2 (vp_updL (vp_updL (vp_updL (m_point r2) (0 : Int32).toNatClampNeg ((v1).toInt64)) (1 : Int32).toNatClampNeg ((v2).toInt64)) (2 : Int32).toNatClampNeg ((v3).toInt64))) X)) G 9 (by decide) rfl i28 dM_seek_28 (LM_point κ (s_point r2 (vp_updL (vp_updL (m_point r2) (0 : Int32).toNatClampNeg ((v1).toInt64)) (1 : Int32).toNatClampNeg ((v2).toInt64))) X _) ?_
  refine w_aload_n (pc := 29) (q := 0) G dM_seek_29 rfl rfl ?_
  refine w_get (pc := 30) (v := .ref (κ.1 9)) (fs := mfl κ (s_point r2 (vp_updL (vp_updL (vp_updL (m_point r2) (0 : Int32).toNatClampNeg ((v1).toInt64)) (1 : Int32).toNatClampNeg ((v2).toInt64)) (2 : Int32).toNatClampNeg ((v3).toInt64)))) G 0 (by decide) rfl rfl wsM_ok 12 (by decide) wd502 rfl dM_seek_30 ?_
  refine w_iconst (pc := 33) (v := (3 : Int32)) G dM_seek_33 (by decide) ?_
  refine w_iload (pc := 34) (q := 4) G dM_seek_34 rfl ?_
  refine w_i2l (pc := 36) G dM_seek_36 ?_
  obtain ⟨i37, h⟩ := gd_some h
  refine w_last (pc := 37) (n := 4) (f := vp_updL (vp_updL (vp_updL (m_point r2) (0 : Int32).toNatClampNeg ((v1).toInt64)) (1 : Int32).toNatClampNeg ((v2).toInt64)) (2 : Int32).toNatClampNeg ((v3).toInt64)) (L1 := (LM κ (s_point r2 (vp_updL (vp_updL (vp_updL (vp_updL (m_point r2) (0 : Int32).toNatClampNeg ((v1).toInt64)) (1 : Int32).toNatClampNeg ((v2).toInt64)) (2 : Int32).toNatClampNeg ((v3).toInt64)) (3 : Int32).toNatClampNeg ((v4).toInt64))) X)) G 9 (by decide) rfl i37 dM_seek_37 (LM_point κ (s_point r2 (vp_updL (vp_updL (vp_updL (m_point r2) (0 : Int32).toNatClampNeg ((v1).toInt64)) (1 : Int32).toNatClampNeg ((v2).toInt64)) (2 : Int32).toNatClampNeg ((v3).toInt64))) X _) ?_
  refine w_aload_n (pc := 38) (q := 0) G dM_seek_38 rfl rfl ?_
  refine w_iconst (pc := 39) (v := (0 : Int32)) G dM_seek_39 (by decide) ?_
  refine w_put (pc := 40) (fs := mfl κ (s_point r2 (vp_updL (vp_updL (vp_updL (vp_updL (m_point r2) (0 : Int32).toNatClampNeg ((v1).toInt64)) (1 : Int32).toNatClampNeg ((v2).toInt64)) (2 : Int32).toNatClampNeg ((v3).toInt64)) (3 : Int32).toNatClampNeg ((v4).toInt64)))) (L1 := (LM κ (s_any (s_point r2 (vp_updL (vp_updL (vp_updL (vp_updL (m_point r2) (0 : Int32).toNatClampNeg ((v1).toInt64)) (1 : Int32).toNatClampNeg ((v2).toInt64)) (2 : Int32).toNatClampNeg ((v3).toInt64)) (3 : Int32).toNatClampNeg ((v4).toInt64))) ((0 : Int32))) X)) G 0 (by decide) rfl rfl wsM_ok tyM tyM_ok nmM 26 (by decide) wd516 rfl rfl rfl (Nat.le_of_ble_eq_true rfl) dM_seek_40 (LMf_any κ (s_point r2 (vp_updL (vp_updL (vp_updL (vp_updL (m_point r2) (0 : Int32).toNatClampNeg ((v1).toInt64)) (1 : Int32).toNatClampNeg ((v2).toInt64)) (2 : Int32).toNatClampNeg ((v3).toInt64)) (3 : Int32).toNatClampNeg ((v4).toInt64))) X _) ?_
  refine w_lconst (pc := 43) (v := (1 : Int64)) G dM_seek_43 (by decide) ?_
  refine w_lstore (pc := 44) (lv' := [(5, .long (1 : Int64)), (0, .ref (κ.1 0)), (1, .int v1), (2, .int v2), (3, .int v3), (4, .int v4)]) G dM_seek_44 (by decide) rfl ?_
  refine w_sub (lv' := [(0, .ref (κ.1 0)), (5, .long (1 : Int64))]) [1, 0] rfl ?_
  obtain ⟨o46_4, eo46_4, h⟩ := bd h
  refine lM_seek_46_ok G X F  F (1 : Int64) (s_any (s_point r2 (vp_updL (vp_updL (vp_updL (vp_updL (m_point r2) (0 : Int32).toNatClampNeg ((v1).toInt64)) (1 : Int32).toNatClampNeg ((v2).toInt64)) (2 : Int32).toNatClampNeg ((v3).toInt64)) (3 : Int32).toNatClampNeg ((v4).toInt64))) ((0 : Int32))) o46_4 eo46_4 ?_
  obtain rfl := Option.some.inj h
  exact w_vret (pc := 71) G dM_seek_71 Fh
def rm_M_distance : Room := { frames := 8, cells := 0, slots := 0, locals := 205 }
theorem dM_distance_0 : decode cM_distance 0 = .ok (.iload_n 1, 1) := by decide +kernel
theorem dM_distance_1 : decode cM_distance 1 = .ok (.iload_n 2, 1) := by decide +kernel
theorem dM_distance_2 : decode cM_distance 2 = .ok (.iload_n 3, 1) := by decide +kernel
theorem dM_distance_3 : decode cM_distance 3 = .ok (.iload 4, 2) := by decide +kernel
theorem dM_distance_5 : decode cM_distance 5 = .ok (.bipush 30, 2) := by decide +kernel
theorem dM_distance_7 : decode cM_distance 7 = .ok (.invokestatic 63, 3) := by decide +kernel
theorem dM_distance_10 : decode cM_distance 10 = .ok (.ifCond .ne 5, 3) := by decide +kernel
theorem dM_distance_13 : decode cM_distance 13 = .ok (.iconst (-1), 1) := by decide +kernel
theorem dM_distance_14 : decode cM_distance 14 = .ok (.ireturn, 1) := by decide +kernel
theorem dM_distance_15 : decode cM_distance 15 = .ok (.aload_n 0, 1) := by decide +kernel
theorem dM_distance_16 : decode cM_distance 16 = .ok (.iload_n 1, 1) := by decide +kernel
theorem dM_distance_17 : decode cM_distance 17 = .ok (.iload_n 2, 1) := by decide +kernel
theorem dM_distance_18 : decode cM_distance 18 = .ok (.iload_n 3, 1) := by decide +kernel
theorem dM_distance_19 : decode cM_distance 19 = .ok (.iload 4, 2) := by decide +kernel
theorem dM_distance_21 : decode cM_distance 21 = .ok (.invokevirtual 213, 3) := by decide +kernel
theorem dM_distance_24 : decode cM_distance 24 = .ok (.aload_n 0, 1) := by decide +kernel
theorem dM_distance_25 : decode cM_distance 25 = .ok (.getfield 132, 3) := by decide +kernel
theorem dM_distance_28 : decode cM_distance 28 = .ok (.l2i, 1) := by decide +kernel
theorem dM_distance_29 : decode cM_distance 29 = .ok (.ireturn, 1) := by decide +kernel
theorem cb_M_seek_M_distance : CB yM_seek cM_seek 7 none rm_M_seek rm_M_distance 4 := ⟨wd754, wd8, by decide +kernel, rfl, rfl, by decide⟩
theorem cb_M_within_M_distance : CB yM_within cM_within 5 (some .boolean) rm_M_within rm_M_distance 5 := ⟨wd578, wd8, by decide +kernel, rfl, rfl, by decide⟩
noncomputable def M_distance (F : Nat) (τ : MS) (v1 : Int32) (v2 : Int32) (v3 : Int32) (v4 : Int32) : Option (Int32 × MS) := (M_within F v1 v2 v3 v4 (30 : Int32)).bind (fun r7 => if r7 = 0 then some ((-1 : Int32), τ) else (M_seek F τ v1 v2 v3 v4).bind (fun r21 => some ((m_limit r21).toInt32, r21)))
set_option maxHeartbeats 4000000 in
set_option maxRecDepth 100000 in
theorem met_M_distance (κ : ctx) (X : Nat → va_E) (F : Nat) (τ : MS) (v1 : Int32) (v2 : Int32) (v3 : Int32) (v4 : Int32) {out : Int32 × MS} (h : M_distance F τ v1 v2 v3 v4 = some out) : Mt yM_distance cM_distance 5 (some .int) rm_M_distance κ [.ref (κ.1 0), .int v1, .int v2, .int v3, .int v4] (LM κ τ X) (some (.int out.1)) (LM κ out.2 X) := by
  refine Mt.of (by decide) (Nat.le_of_ble_eq_true rfl) ?_
  intro g G Fh
  unfold M_distance at h
  show J g κ 5 0 [(0, .ref (κ.1 0)), (1, .int v1), (2, .int v2), (3, .int v3), (4, .int v4)] [] (LM κ τ X)
  refine w_iload_n (pc := 0) (q := 1) G dM_distance_0 rfl rfl ?_
  refine w_iload_n (pc := 1) (q := 2) G dM_distance_1 rfl rfl ?_
  refine w_iload_n (pc := 2) (q := 3) G dM_distance_2 rfl rfl ?_
  refine w_iload (pc := 3) (q := 4) G dM_distance_3 rfl ?_
  refine w_bipush (pc := 5) (v := (30 : Int32)) G dM_distance_5 (by decide) ?_
  obtain ⟨r7, e7, h⟩ := bd h
  refine w_callS (pc := 7) (av := [.int v1, .int v2, .int v3, .int v4, .int (30 : Int32)]) (rest := []) (v := some (.int r7)) (L' := (LM κ τ X)) G cb_M_within_M_distance wd577 wd576 (met_M_within κ (LM κ τ X) F v1 v2 v3 v4 (30 : Int32) e7) rfl rfl rfl (Nat.le_of_ble_eq_true rfl) dM_distance_7 ?_
  refine w_if_ne (pc := 10) (tgt := 15) G dM_distance_10 (by decide) (fun c10 => ?_) (fun c10 => ?_)
  · have h := if_t c10 h
    refine w_iconst (pc := 13) (v := (-1 : Int32)) G dM_distance_13 (by decide) ?_
    obtain rfl := Option.some.inj h
    exact w_iret (pc := 14) G dM_distance_14 Fh
  · have h := if_f c10 h
    refine w_aload_n (pc := 15) (q := 0) G dM_distance_15 rfl rfl ?_
    refine w_iload_n (pc := 16) (q := 1) G dM_distance_16 rfl rfl ?_
    refine w_iload_n (pc := 17) (q := 2) G dM_distance_17 rfl rfl ?_
    refine w_iload_n (pc := 18) (q := 3) G dM_distance_18 rfl rfl ?_
    refine w_iload (pc := 19) (q := 4) G dM_distance_19 rfl ?_
    obtain ⟨r21, e21, h⟩ := bd h
    refine w_callV (pc := 21) (av := [.int v1, .int v2, .int v3, .int v4]) (rest := []) (v := none) (L' := (LM κ r21 X)) (T := TM) (fs := mfl κ τ) G 0 0 27 (by decide) rfl rfl cb_M_seek_M_distance wd753 ws48 wd751 (met_M_seek κ X F τ v1 v2 v3 v4 e21) rfl rfl rfl (Nat.le_of_ble_eq_true rfl) dM_distance_21 ?_
    refine w_aload_n (pc := 24) (q := 0) G dM_distance_24 rfl rfl ?_
    refine w_get (pc := 25) (v := .long (m_limit r21)) (fs := mfl κ r21) G 0 (by decide) rfl rfl wsM_ok 13 (by decide) wd503 rfl dM_distance_25 ?_
    refine w_l2i (pc := 28) G dM_distance_28 ?_
    obtain rfl := Option.some.inj h
    exact w_iret (pc := 29) G dM_distance_29 Fh
def rm_M_nearest : Room := { frames := 8, cells := 0, slots := 0, locals := 205 }
theorem dM_nearest_0 : decode cM_nearest 0 = .ok (.iload_n 1, 1) := by decide +kernel
theorem dM_nearest_1 : decode cM_nearest 1 = .ok (.iload_n 2, 1) := by decide +kernel
theorem dM_nearest_2 : decode cM_nearest 2 = .ok (.iload_n 3, 1) := by decide +kernel
theorem dM_nearest_3 : decode cM_nearest 3 = .ok (.iload 4, 2) := by decide +kernel
theorem dM_nearest_5 : decode cM_nearest 5 = .ok (.bipush 30, 2) := by decide +kernel
theorem dM_nearest_7 : decode cM_nearest 7 = .ok (.invokestatic 63, 3) := by decide +kernel
theorem dM_nearest_10 : decode cM_nearest 10 = .ok (.ifCond .eq 14, 3) := by decide +kernel
theorem dM_nearest_13 : decode cM_nearest 13 = .ok (.iload 5, 2) := by decide +kernel
theorem dM_nearest_15 : decode cM_nearest 15 = .ok (.ifCond .lt 9, 3) := by decide +kernel
theorem dM_nearest_18 : decode cM_nearest 18 = .ok (.iload 5, 2) := by decide +kernel
theorem dM_nearest_20 : decode cM_nearest 20 = .ok (.iconst 3, 1) := by decide +kernel
theorem dM_nearest_21 : decode cM_nearest 21 = .ok (.if_icmp .le 7, 3) := by decide +kernel
theorem dM_nearest_24 : decode cM_nearest 24 = .ok (.sipush 1000, 3) := by decide +kernel
theorem dM_nearest_27 : decode cM_nearest 27 = .ok (.ireturn, 1) := by decide +kernel
theorem dM_nearest_28 : decode cM_nearest 28 = .ok (.aload_n 0, 1) := by decide +kernel
theorem dM_nearest_29 : decode cM_nearest 29 = .ok (.iload_n 1, 1) := by decide +kernel
theorem dM_nearest_30 : decode cM_nearest 30 = .ok (.iload_n 2, 1) := by decide +kernel
theorem dM_nearest_31 : decode cM_nearest 31 = .ok (.iload_n 3, 1) := by decide +kernel
theorem dM_nearest_32 : decode cM_nearest 32 = .ok (.iload 4, 2) := by decide +kernel
theorem dM_nearest_34 : decode cM_nearest 34 = .ok (.invokevirtual 213, 3) := by decide +kernel
theorem dM_nearest_37 : decode cM_nearest 37 = .ok (.aload_n 0, 1) := by decide +kernel
theorem dM_nearest_38 : decode cM_nearest 38 = .ok (.getfield 50, 3) := by decide +kernel
theorem dM_nearest_41 : decode cM_nearest 41 = .ok (.iload 5, 2) := by decide +kernel
theorem dM_nearest_43 : decode cM_nearest 43 = .ok (.laload, 1) := by decide +kernel
theorem dM_nearest_44 : decode cM_nearest 44 = .ok (.l2i, 1) := by decide +kernel
theorem dM_nearest_45 : decode cM_nearest 45 = .ok (.ireturn, 1) := by decide +kernel
theorem cb_M_seek_M_nearest : CB yM_seek cM_seek 7 none rm_M_seek rm_M_nearest 4 := ⟨wd754, wd8, by decide +kernel, rfl, rfl, by decide⟩
theorem cb_M_within_M_nearest : CB yM_within cM_within 5 (some .boolean) rm_M_within rm_M_nearest 5 := ⟨wd578, wd8, by decide +kernel, rfl, rfl, by decide⟩
noncomputable def M_nearest (F : Nat) (τ : MS) (v1 : Int32) (v2 : Int32) (v3 : Int32) (v4 : Int32) (v5 : Int32) : Option (Int32 × MS) := (M_within F v1 v2 v3 v4 (30 : Int32)).bind (fun r7 => if r7 = 0 then some ((1000 : Int32), τ) else if v5 < 0 then some ((1000 : Int32), τ) else if v5 ≤ (3 : Int32) then (M_seek F τ v1 v2 v3 v4).bind (fun r34 => gd (vp_in v5 4) (some (((m_found r34) v5.toNatClampNeg).toInt32, r34))) else some ((1000 : Int32), τ))
set_option maxHeartbeats 4000000 in
set_option maxRecDepth 100000 in
theorem met_M_nearest (κ : ctx) (X : Nat → va_E) (F : Nat) (τ : MS) (v1 : Int32) (v2 : Int32) (v3 : Int32) (v4 : Int32) (v5 : Int32) {out : Int32 × MS} (h : M_nearest F τ v1 v2 v3 v4 v5 = some out) : Mt yM_nearest cM_nearest 6 (some .int) rm_M_nearest κ [.ref (κ.1 0), .int v1, .int v2, .int v3, .int v4, .int v5] (LM κ τ X) (some (.int out.1)) (LM κ out.2 X) := by
  refine Mt.of (by decide) (Nat.le_of_ble_eq_true rfl) ?_
  intro g G Fh
  unfold M_nearest at h
  show J g κ 6 0 [(0, .ref (κ.1 0)), (1, .int v1), (2, .int v2), (3, .int v3), (4, .int v4), (5, .int v5)] [] (LM κ τ X)
  refine w_iload_n (pc := 0) (q := 1) G dM_nearest_0 rfl rfl ?_
  refine w_iload_n (pc := 1) (q := 2) G dM_nearest_1 rfl rfl ?_
  refine w_iload_n (pc := 2) (q := 3) G dM_nearest_2 rfl rfl ?_
  refine w_iload (pc := 3) (q := 4) G dM_nearest_3 rfl ?_
  refine w_bipush (pc := 5) (v := (30 : Int32)) G dM_nearest_5 (by decide) ?_
  obtain ⟨r7, e7, h⟩ := bd h
  refine w_callS (pc := 7) (av := [.int v1, .int v2, .int v3, .int v4, .int (30 : Int32)]) (rest := []) (v := some (.int r7)) (L' := (LM κ τ X)) G cb_M_within_M_nearest wd577 wd576 (met_M_within κ (LM κ τ X) F v1 v2 v3 v4 (30 : Int32) e7) rfl rfl rfl (Nat.le_of_ble_eq_true rfl) dM_nearest_7 ?_
  refine w_if_eq (pc := 10) (tgt := 24) G dM_nearest_10 (by decide) (fun c10 => ?_) (fun c10 => ?_)
  · have h := if_t c10 h
    refine w_sipush (pc := 24) (v := (1000 : Int32)) G dM_nearest_24 (by decide) ?_
    obtain rfl := Option.some.inj h
    exact w_iret (pc := 27) G dM_nearest_27 Fh
  · have h := if_f c10 h
    refine w_iload (pc := 13) (q := 5) G dM_nearest_13 rfl ?_
    refine w_if_lt (pc := 15) (tgt := 24) G dM_nearest_15 (by decide) (fun c15 => ?_) (fun c15 => ?_)
    · have h := if_t c15 h
      refine w_sipush (pc := 24) (v := (1000 : Int32)) G dM_nearest_24 (by decide) ?_
      obtain rfl := Option.some.inj h
      exact w_iret (pc := 27) G dM_nearest_27 Fh
    · have h := if_f c15 h
      refine w_iload (pc := 18) (q := 5) G dM_nearest_18 rfl ?_
      refine w_iconst (pc := 20) (v := (3 : Int32)) G dM_nearest_20 (by decide) ?_
      refine w_icmp_le (pc := 21) (tgt := 28) G dM_nearest_21 (by decide) (fun c21 => ?_) (fun c21 => ?_)
      · have h := if_t c21 h
        refine w_aload_n (pc := 28) (q := 0) G dM_nearest_28 rfl rfl ?_
        refine w_iload_n (pc := 29) (q := 1) G dM_nearest_29 rfl rfl ?_
        refine w_iload_n (pc := 30) (q := 2) G dM_nearest_30 rfl rfl ?_
        refine w_iload_n (pc := 31) (q := 3) G dM_nearest_31 rfl rfl ?_
        refine w_iload (pc := 32) (q := 4) G dM_nearest_32 rfl ?_
        obtain ⟨r34, e34, h⟩ := bd h
        refine w_callV (pc := 34) (av := [.int v1, .int v2, .int v3, .int v4]) (rest := []) (v := none) (L' := (LM κ r34 X)) (T := TM) (fs := mfl κ τ) G 0 0 27 (by decide) rfl rfl cb_M_seek_M_nearest wd753 ws48 wd751 (met_M_seek κ X F τ v1 v2 v3 v4 e34) rfl rfl rfl (Nat.le_of_ble_eq_true rfl) dM_nearest_34 ?_
        refine w_aload_n (pc := 37) (q := 0) G dM_nearest_37 rfl rfl ?_
        refine w_get (pc := 38) (v := .ref (κ.1 14)) (fs := mfl κ r34) G 0 (by decide) rfl rfl wsM_ok 25 (by decide) wd515 rfl dM_nearest_38 ?_
        refine w_iload (pc := 41) (q := 5) G dM_nearest_41 rfl ?_
        obtain ⟨i43, h⟩ := gd_some h
        refine w_lald (pc := 43) (n := 4) (f := (m_found r34)) G 14 (by decide) rfl i43 dM_nearest_43 ?_
        refine w_l2i (pc := 44) G dM_nearest_44 ?_
        obtain rfl := Option.some.inj h
        exact w_iret (pc := 45) G dM_nearest_45 Fh
      · have h := if_f c21 h
        refine w_sipush (pc := 24) (v := (1000 : Int32)) G dM_nearest_24 (by decide) ?_
        obtain rfl := Option.some.inj h
        exact w_iret (pc := 27) G dM_nearest_27 Fh
end
