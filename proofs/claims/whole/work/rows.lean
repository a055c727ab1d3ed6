section
-- ===== PART A: goes FIRST, ahead of the names: the tables' words, and 'selects' of the private methods out of them =====
/-- a private method of a class that the tables say can be made, by its rows of tables_1 -/
def lw_okq (q : MethodName × Nat) : Prop := (q.1.cls ≠ "java/lang/invoke/MethodHandle" ∧ q.1.cls ≠ "java/lang/invoke/VarHandle") ∧ Cond.instantiable q.1.cls q.2 ∈ tables_1 ∧ Cond.privateMethod q.1 ∈ tables_1 ∧ Cond.instanceMethod q.1 ∈ tables_1
theorem lw_p0 : lw_okq (⟨"ShortVectors", "ask", "(IIIII)Z"⟩, 12) := ⟨⟨by decide +kernel, by decide +kernel⟩, List.mem_of_getElem? (i := 13) (by decide +kernel), List.mem_of_getElem? (i := 165) (by decide +kernel), List.mem_of_getElem? (i := 166) (by decide +kernel)⟩
theorem lw_p1 : lw_okq (⟨"ShortVectors$Echelon", "merge", "([JI)V"⟩, 2) := ⟨⟨by decide +kernel, by decide +kernel⟩, List.mem_of_getElem? (i := 23) (by decide +kernel), List.mem_of_getElem? (i := 180) (by decide +kernel), List.mem_of_getElem? (i := 181) (by decide +kernel)⟩
theorem lw_p2 : lw_okq (⟨"ShortVectors$Echelon", "shorten", "(I)V"⟩, 2) := ⟨⟨by decide +kernel, by decide +kernel⟩, List.mem_of_getElem? (i := 23) (by decide +kernel), List.mem_of_getElem? (i := 189) (by decide +kernel), List.mem_of_getElem? (i := 190) (by decide +kernel)⟩
theorem lw_p3 : lw_okq (⟨"ShortVectors", "forget", "()V"⟩, 12) := ⟨⟨by decide +kernel, by decide +kernel⟩, List.mem_of_getElem? (i := 13) (by decide +kernel), List.mem_of_getElem? (i := 200) (by decide +kernel), List.mem_of_getElem? (i := 201) (by decide +kernel)⟩
theorem lw_p4 : lw_okq (⟨"ShortVectors", "gather", "(LShortVectors$Echelon;I)V"⟩, 12) := ⟨⟨by decide +kernel, by decide +kernel⟩, List.mem_of_getElem? (i := 13) (by decide +kernel), List.mem_of_getElem? (i := 208) (by decide +kernel), List.mem_of_getElem? (i := 209) (by decide +kernel)⟩
theorem lw_p5 : lw_okq (⟨"ShortVectors", "readyBasis", "()LShortVectors$Basis;"⟩, 12) := ⟨⟨by decide +kernel, by decide +kernel⟩, List.mem_of_getElem? (i := 13) (by decide +kernel), List.mem_of_getElem? (i := 235) (by decide +kernel), List.mem_of_getElem? (i := 236) (by decide +kernel)⟩
theorem lw_p6 : lw_okq (⟨"ShortVectors$Basis", "reduce", "()V"⟩, 8) := ⟨⟨by decide +kernel, by decide +kernel⟩, List.mem_of_getElem? (i := 38) (by decide +kernel), List.mem_of_getElem? (i := 249) (by decide +kernel), List.mem_of_getElem? (i := 250) (by decide +kernel)⟩
theorem lw_p7 : lw_okq (⟨"ShortVectors$Basis", "shortenByPairs", "()Z"⟩, 8) := ⟨⟨by decide +kernel, by decide +kernel⟩, List.mem_of_getElem? (i := 38) (by decide +kernel), List.mem_of_getElem? (i := 254) (by decide +kernel), List.mem_of_getElem? (i := 255) (by decide +kernel)⟩
theorem lw_p8 : lw_okq (⟨"ShortVectors$Basis", "shortenBy", "(II)Z"⟩, 8) := ⟨⟨by decide +kernel, by decide +kernel⟩, List.mem_of_getElem? (i := 38) (by decide +kernel), List.mem_of_getElem? (i := 258) (by decide +kernel), List.mem_of_getElem? (i := 259) (by decide +kernel)⟩
theorem lw_p9 : lw_okq (⟨"ShortVectors$Basis", "shortenBySums", "()Z"⟩, 8) := ⟨⟨by decide +kernel, by decide +kernel⟩, List.mem_of_getElem? (i := 38) (by decide +kernel), List.mem_of_getElem? (i := 275) (by decide +kernel), List.mem_of_getElem? (i := 276) (by decide +kernel)⟩
theorem lw_p10 : lw_okq (⟨"ShortVectors$Basis", "shortenByChoice", "(II)Z"⟩, 8) := ⟨⟨by decide +kernel, by decide +kernel⟩, List.mem_of_getElem? (i := 38) (by decide +kernel), List.mem_of_getElem? (i := 279) (by decide +kernel), List.mem_of_getElem? (i := 280) (by decide +kernel)⟩
theorem lw_p11 : lw_okq (⟨"ShortVectors$Basis", "sort", "()V"⟩, 8) := ⟨⟨by decide +kernel, by decide +kernel⟩, List.mem_of_getElem? (i := 38) (by decide +kernel), List.mem_of_getElem? (i := 283) (by decide +kernel), List.mem_of_getElem? (i := 284) (by decide +kernel)⟩
theorem lw_p12 : lw_okq (⟨"ShortVectors$Basis", "direct", "(I)V"⟩, 8) := ⟨⟨by decide +kernel, by decide +kernel⟩, List.mem_of_getElem? (i := 38) (by decide +kernel), List.mem_of_getElem? (i := 291) (by decide +kernel), List.mem_of_getElem? (i := 292) (by decide +kernel)⟩
theorem lw_p13 : lw_okq (⟨"ShortVectors$Basis", "eliminate", "(IJ)V"⟩, 8) := ⟨⟨by decide +kernel, by decide +kernel⟩, List.mem_of_getElem? (i := 38) (by decide +kernel), List.mem_of_getElem? (i := 310) (by decide +kernel), List.mem_of_getElem? (i := 311) (by decide +kernel)⟩
theorem lw_p14 : lw_okq (⟨"ShortVectors$Basis", "squareOutside", "([J)J"⟩, 8) := ⟨⟨by decide +kernel, by decide +kernel⟩, List.mem_of_getElem? (i := 38) (by decide +kernel), List.mem_of_getElem? (i := 373) (by decide +kernel), List.mem_of_getElem? (i := 374) (by decide +kernel)⟩
theorem lw_p15 : lw_okq (⟨"ShortVectors$Basis", "descend", "(IJLShortVectors$Collector;)V"⟩, 8) := ⟨⟨by decide +kernel, by decide +kernel⟩, List.mem_of_getElem? (i := 38) (by decide +kernel), List.mem_of_getElem? (i := 378) (by decide +kernel), List.mem_of_getElem? (i := 379) (by decide +kernel)⟩
def lw_privs_1 : List (MethodName × Nat) := [(⟨"ShortVectors", "ask", "(IIIII)Z"⟩, 12), (⟨"ShortVectors$Echelon", "merge", "([JI)V"⟩, 2), (⟨"ShortVectors$Echelon", "shorten", "(I)V"⟩, 2), (⟨"ShortVectors", "forget", "()V"⟩, 12), (⟨"ShortVectors", "gather", "(LShortVectors$Echelon;I)V"⟩, 12), (⟨"ShortVectors", "readyBasis", "()LShortVectors$Basis;"⟩, 12), (⟨"ShortVectors$Basis", "reduce", "()V"⟩, 8), (⟨"ShortVectors$Basis", "shortenByPairs", "()Z"⟩, 8), (⟨"ShortVectors$Basis", "shortenBy", "(II)Z"⟩, 8), (⟨"ShortVectors$Basis", "shortenBySums", "()Z"⟩, 8), (⟨"ShortVectors$Basis", "shortenByChoice", "(II)Z"⟩, 8), (⟨"ShortVectors$Basis", "sort", "()V"⟩, 8), (⟨"ShortVectors$Basis", "direct", "(I)V"⟩, 8), (⟨"ShortVectors$Basis", "eliminate", "(IJ)V"⟩, 8), (⟨"ShortVectors$Basis", "squareOutside", "([J)J"⟩, 8), (⟨"ShortVectors$Basis", "descend", "(IJLShortVectors$Collector;)V"⟩, 8)]
theorem lw_r1 : ∀ q ∈ lw_privs_1, lw_okq q := List.forall_mem_cons.mpr ⟨lw_p0, List.forall_mem_cons.mpr ⟨lw_p1, List.forall_mem_cons.mpr ⟨lw_p2, List.forall_mem_cons.mpr ⟨lw_p3, List.forall_mem_cons.mpr ⟨lw_p4, List.forall_mem_cons.mpr ⟨lw_p5, List.forall_mem_cons.mpr ⟨lw_p6, List.forall_mem_cons.mpr ⟨lw_p7, List.forall_mem_cons.mpr ⟨lw_p8, List.forall_mem_cons.mpr ⟨lw_p9, List.forall_mem_cons.mpr ⟨lw_p10, List.forall_mem_cons.mpr ⟨lw_p11, List.forall_mem_cons.mpr ⟨lw_p12, List.forall_mem_cons.mpr ⟨lw_p13, List.forall_mem_cons.mpr ⟨lw_p14, List.forall_mem_cons.mpr ⟨lw_p15, fun _ h => absurd h List.not_mem_nil⟩⟩⟩⟩⟩⟩⟩⟩⟩⟩⟩⟩⟩⟩⟩⟩
theorem lw_p16 : lw_okq (⟨"ShortVectors$FirstVectors", "precedes", "([JJI)Z"⟩, 5) := ⟨⟨by decide +kernel, by decide +kernel⟩, List.mem_of_getElem? (i := 90) (by decide +kernel), List.mem_of_getElem? (i := 404) (by decide +kernel), List.mem_of_getElem? (i := 405) (by decide +kernel)⟩
theorem lw_p17 : lw_okq (⟨"ShortVectors$FirstVectors", "insert", "([JJI)V"⟩, 5) := ⟨⟨by decide +kernel, by decide +kernel⟩, List.mem_of_getElem? (i := 90) (by decide +kernel), List.mem_of_getElem? (i := 409) (by decide +kernel), List.mem_of_getElem? (i := 410) (by decide +kernel)⟩
theorem lw_p18 : lw_okq (⟨"ShortVectors$Basis", "walk", "(IJIJLShortVectors$Collector;)V"⟩, 8) := ⟨⟨by decide +kernel, by decide +kernel⟩, List.mem_of_getElem? (i := 38) (by decide +kernel), List.mem_of_getElem? (i := 426) (by decide +kernel), List.mem_of_getElem? (i := 427) (by decide +kernel)⟩
theorem lw_p19 : lw_okq (⟨"ShortVectorsModel", "changed", "()V"⟩, 27) := ⟨⟨by decide +kernel, by decide +kernel⟩, List.mem_of_getElem? (i := 485) (by decide +kernel), List.mem_of_getElem? (i := 580) (by decide +kernel), List.mem_of_getElem? (i := 581) (by decide +kernel)⟩
theorem lw_p20 : lw_okq (⟨"ShortVectorsModel", "look", "(I)V"⟩, 27) := ⟨⟨by decide +kernel, by decide +kernel⟩, List.mem_of_getElem? (i := 485) (by decide +kernel), List.mem_of_getElem? (i := 596) (by decide +kernel), List.mem_of_getElem? (i := 597) (by decide +kernel)⟩
theorem lw_p21 : lw_okq (⟨"ShortVectorsModel", "enter", "()V"⟩, 27) := ⟨⟨by decide +kernel, by decide +kernel⟩, List.mem_of_getElem? (i := 485) (by decide +kernel), List.mem_of_getElem? (i := 600) (by decide +kernel), List.mem_of_getElem? (i := 601) (by decide +kernel)⟩
theorem lw_p22 : lw_okq (⟨"ShortVectorsModel", "rowAt", "(I)I"⟩, 27) := ⟨⟨by decide +kernel, by decide +kernel⟩, List.mem_of_getElem? (i := 485) (by decide +kernel), List.mem_of_getElem? (i := 604) (by decide +kernel), List.mem_of_getElem? (i := 605) (by decide +kernel)⟩
theorem lw_p23 : lw_okq (⟨"ShortVectorsModel", "tidy", "(I)V"⟩, 27) := ⟨⟨by decide +kernel, by decide +kernel⟩, List.mem_of_getElem? (i := 485) (by decide +kernel), List.mem_of_getElem? (i := 608) (by decide +kernel), List.mem_of_getElem? (i := 609) (by decide +kernel)⟩
theorem lw_p24 : lw_okq (⟨"ShortVectorsModel", "insert", "(I)V"⟩, 27) := ⟨⟨by decide +kernel, by decide +kernel⟩, List.mem_of_getElem? (i := 485) (by decide +kernel), List.mem_of_getElem? (i := 615) (by decide +kernel), List.mem_of_getElem? (i := 616) (by decide +kernel)⟩
theorem lw_p25 : lw_okq (⟨"ShortVectorsModel", "divide", "(I)V"⟩, 27) := ⟨⟨by decide +kernel, by decide +kernel⟩, List.mem_of_getElem? (i := 485) (by decide +kernel), List.mem_of_getElem? (i := 619) (by decide +kernel), List.mem_of_getElem? (i := 620) (by decide +kernel)⟩
theorem lw_p26 : lw_okq (⟨"ShortVectorsModel", "swap", "(I)V"⟩, 27) := ⟨⟨by decide +kernel, by decide +kernel⟩, List.mem_of_getElem? (i := 485) (by decide +kernel), List.mem_of_getElem? (i := 623) (by decide +kernel), List.mem_of_getElem? (i := 624) (by decide +kernel)⟩
theorem lw_p27 : lw_okq (⟨"ShortVectorsModel", "two", "(IIII)J"⟩, 27) := ⟨⟨by decide +kernel, by decide +kernel⟩, List.mem_of_getElem? (i := 485) (by decide +kernel), List.mem_of_getElem? (i := 631) (by decide +kernel), List.mem_of_getElem? (i := 632) (by decide +kernel)⟩
theorem lw_p28 : lw_okq (⟨"ShortVectorsModel", "three", "(III)J"⟩, 27) := ⟨⟨by decide +kernel, by decide +kernel⟩, List.mem_of_getElem? (i := 485) (by decide +kernel), List.mem_of_getElem? (i := 635) (by decide +kernel), List.mem_of_getElem? (i := 636) (by decide +kernel)⟩
theorem lw_p29 : lw_okq (⟨"ShortVectorsModel", "set", "(IIII)V"⟩, 27) := ⟨⟨by decide +kernel, by decide +kernel⟩, List.mem_of_getElem? (i := 485) (by decide +kernel), List.mem_of_getElem? (i := 643) (by decide +kernel), List.mem_of_getElem? (i := 644) (by decide +kernel)⟩
theorem lw_p30 : lw_okq (⟨"ShortVectorsModel", "times", "()J"⟩, 27) := ⟨⟨by decide +kernel, by decide +kernel⟩, List.mem_of_getElem? (i := 485) (by decide +kernel), List.mem_of_getElem? (i := 647) (by decide +kernel), List.mem_of_getElem? (i := 648) (by decide +kernel)⟩
theorem lw_p31 : lw_okq (⟨"ShortVectorsModel", "origin", "()V"⟩, 27) := ⟨⟨by decide +kernel, by decide +kernel⟩, List.mem_of_getElem? (i := 485) (by decide +kernel), List.mem_of_getElem? (i := 667) (by decide +kernel), List.mem_of_getElem? (i := 668) (by decide +kernel)⟩
def lw_privs_2 : List (MethodName × Nat) := [(⟨"ShortVectors$FirstVectors", "precedes", "([JJI)Z"⟩, 5), (⟨"ShortVectors$FirstVectors", "insert", "([JJI)V"⟩, 5), (⟨"ShortVectors$Basis", "walk", "(IJIJLShortVectors$Collector;)V"⟩, 8), (⟨"ShortVectorsModel", "changed", "()V"⟩, 27), (⟨"ShortVectorsModel", "look", "(I)V"⟩, 27), (⟨"ShortVectorsModel", "enter", "()V"⟩, 27), (⟨"ShortVectorsModel", "rowAt", "(I)I"⟩, 27), (⟨"ShortVectorsModel", "tidy", "(I)V"⟩, 27), (⟨"ShortVectorsModel", "insert", "(I)V"⟩, 27), (⟨"ShortVectorsModel", "divide", "(I)V"⟩, 27), (⟨"ShortVectorsModel", "swap", "(I)V"⟩, 27), (⟨"ShortVectorsModel", "two", "(IIII)J"⟩, 27), (⟨"ShortVectorsModel", "three", "(III)J"⟩, 27), (⟨"ShortVectorsModel", "set", "(IIII)V"⟩, 27), (⟨"ShortVectorsModel", "times", "()J"⟩, 27), (⟨"ShortVectorsModel", "origin", "()V"⟩, 27)]
theorem lw_r2 : ∀ q ∈ lw_privs_2, lw_okq q := List.forall_mem_cons.mpr ⟨lw_p16, List.forall_mem_cons.mpr ⟨lw_p17, List.forall_mem_cons.mpr ⟨lw_p18, List.forall_mem_cons.mpr ⟨lw_p19, List.forall_mem_cons.mpr ⟨lw_p20, List.forall_mem_cons.mpr ⟨lw_p21, List.forall_mem_cons.mpr ⟨lw_p22, List.forall_mem_cons.mpr ⟨lw_p23, List.forall_mem_cons.mpr ⟨lw_p24, List.forall_mem_cons.mpr ⟨lw_p25, List.forall_mem_cons.mpr ⟨lw_p26, List.forall_mem_cons.mpr ⟨lw_p27, List.forall_mem_cons.mpr ⟨lw_p28, List.forall_mem_cons.mpr ⟨lw_p29, List.forall_mem_cons.mpr ⟨lw_p30, List.forall_mem_cons.mpr ⟨lw_p31, fun _ h => absurd h List.not_mem_nil⟩⟩⟩⟩⟩⟩⟩⟩⟩⟩⟩⟩⟩⟩⟩⟩
theorem lw_p32 : lw_okq (⟨"ShortVectorsModel", "walk", "(IJ)V"⟩, 27) := ⟨⟨by decide +kernel, by decide +kernel⟩, List.mem_of_getElem? (i := 485) (by decide +kernel), List.mem_of_getElem? (i := 671) (by decide +kernel), List.mem_of_getElem? (i := 672) (by decide +kernel)⟩
theorem lw_p33 : lw_okq (⟨"ShortVectorsModel", "open", "(I)I"⟩, 27) := ⟨⟨by decide +kernel, by decide +kernel⟩, List.mem_of_getElem? (i := 485) (by decide +kernel), List.mem_of_getElem? (i := 675) (by decide +kernel), List.mem_of_getElem? (i := 676) (by decide +kernel)⟩
theorem lw_p34 : lw_okq (⟨"ShortVectorsModel", "visit", "(IJ)V"⟩, 27) := ⟨⟨by decide +kernel, by decide +kernel⟩, List.mem_of_getElem? (i := 485) (by decide +kernel), List.mem_of_getElem? (i := 679) (by decide +kernel), List.mem_of_getElem? (i := 680) (by decide +kernel)⟩
theorem lw_p35 : lw_okq (⟨"ShortVectorsModel", "sortIn", "(IJ)V"⟩, 27) := ⟨⟨by decide +kernel, by decide +kernel⟩, List.mem_of_getElem? (i := 485) (by decide +kernel), List.mem_of_getElem? (i := 683) (by decide +kernel), List.mem_of_getElem? (i := 684) (by decide +kernel)⟩
theorem lw_p36 : lw_okq (⟨"ShortVectorsModel", "before", "(IJI)Z"⟩, 27) := ⟨⟨by decide +kernel, by decide +kernel⟩, List.mem_of_getElem? (i := 485) (by decide +kernel), List.mem_of_getElem? (i := 687) (by decide +kernel), List.mem_of_getElem? (i := 688) (by decide +kernel)⟩
theorem lw_p37 : lw_okq (⟨"ShortVectorsModel", "extend", "(I)V"⟩, 27) := ⟨⟨by decide +kernel, by decide +kernel⟩, List.mem_of_getElem? (i := 485) (by decide +kernel), List.mem_of_getElem? (i := 691) (by decide +kernel), List.mem_of_getElem? (i := 692) (by decide +kernel)⟩
theorem lw_p38 : lw_okq (⟨"ShortVectorsModel", "lead", "(I)I"⟩, 27) := ⟨⟨by decide +kernel, by decide +kernel⟩, List.mem_of_getElem? (i := 485) (by decide +kernel), List.mem_of_getElem? (i := 695) (by decide +kernel), List.mem_of_getElem? (i := 696) (by decide +kernel)⟩
theorem lw_p39 : lw_okq (⟨"ShortVectorsModel", "shrink", "()V"⟩, 27) := ⟨⟨by decide +kernel, by decide +kernel⟩, List.mem_of_getElem? (i := 485) (by decide +kernel), List.mem_of_getElem? (i := 699) (by decide +kernel), List.mem_of_getElem? (i := 700) (by decide +kernel)⟩
theorem lw_p40 : lw_okq (⟨"ShortVectorsModel", "compare", "(IJ)V"⟩, 27) := ⟨⟨by decide +kernel, by decide +kernel⟩, List.mem_of_getElem? (i := 485) (by decide +kernel), List.mem_of_getElem? (i := 703) (by decide +kernel), List.mem_of_getElem? (i := 704) (by decide +kernel)⟩
theorem lw_p41 : lw_okq (⟨"ShortVectorsModel", "finish", "(I)V"⟩, 27) := ⟨⟨by decide +kernel, by decide +kernel⟩, List.mem_of_getElem? (i := 485) (by decide +kernel), List.mem_of_getElem? (i := 707) (by decide +kernel), List.mem_of_getElem? (i := 708) (by decide +kernel)⟩
theorem lw_p42 : lw_okq (⟨"ShortVectorsModel", "along", "(IJJ)V"⟩, 27) := ⟨⟨by decide +kernel, by decide +kernel⟩, List.mem_of_getElem? (i := 485) (by decide +kernel), List.mem_of_getElem? (i := 712) (by decide +kernel), List.mem_of_getElem? (i := 713) (by decide +kernel)⟩
theorem lw_p43 : lw_okq (⟨"ShortVectorsModel", "take", "(I)V"⟩, 27) := ⟨⟨by decide +kernel, by decide +kernel⟩, List.mem_of_getElem? (i := 485) (by decide +kernel), List.mem_of_getElem? (i := 716) (by decide +kernel), List.mem_of_getElem? (i := 717) (by decide +kernel)⟩
theorem lw_p44 : lw_okq (⟨"ShortVectorsModel", "range", "(I)V"⟩, 27) := ⟨⟨by decide +kernel, by decide +kernel⟩, List.mem_of_getElem? (i := 485) (by decide +kernel), List.mem_of_getElem? (i := 720) (by decide +kernel), List.mem_of_getElem? (i := 721) (by decide +kernel)⟩
theorem lw_p45 : lw_okq (⟨"ShortVectorsModel", "list", "()V"⟩, 27) := ⟨⟨by decide +kernel, by decide +kernel⟩, List.mem_of_getElem? (i := 485) (by decide +kernel), List.mem_of_getElem? (i := 732) (by decide +kernel), List.mem_of_getElem? (i := 733) (by decide +kernel)⟩
theorem lw_p46 : lw_okq (⟨"ShortVectorsModel", "measure", "()V"⟩, 27) := ⟨⟨by decide +kernel, by decide +kernel⟩, List.mem_of_getElem? (i := 485) (by decide +kernel), List.mem_of_getElem? (i := 740) (by decide +kernel), List.mem_of_getElem? (i := 741) (by decide +kernel)⟩
theorem lw_p47 : lw_okq (⟨"ShortVectorsModel", "reaches", "(II)Z"⟩, 27) := ⟨⟨by decide +kernel, by decide +kernel⟩, List.mem_of_getElem? (i := 485) (by decide +kernel), List.mem_of_getElem? (i := 744) (by decide +kernel), List.mem_of_getElem? (i := 745) (by decide +kernel)⟩
def lw_privs_3 : List (MethodName × Nat) := [(⟨"ShortVectorsModel", "walk", "(IJ)V"⟩, 27), (⟨"ShortVectorsModel", "open", "(I)I"⟩, 27), (⟨"ShortVectorsModel", "visit", "(IJ)V"⟩, 27), (⟨"ShortVectorsModel", "sortIn", "(IJ)V"⟩, 27), (⟨"ShortVectorsModel", "before", "(IJI)Z"⟩, 27), (⟨"ShortVectorsModel", "extend", "(I)V"⟩, 27), (⟨"ShortVectorsModel", "lead", "(I)I"⟩, 27), (⟨"ShortVectorsModel", "shrink", "()V"⟩, 27), (⟨"ShortVectorsModel", "compare", "(IJ)V"⟩, 27), (⟨"ShortVectorsModel", "finish", "(I)V"⟩, 27), (⟨"ShortVectorsModel", "along", "(IJJ)V"⟩, 27), (⟨"ShortVectorsModel", "take", "(I)V"⟩, 27), (⟨"ShortVectorsModel", "range", "(I)V"⟩, 27), (⟨"ShortVectorsModel", "list", "()V"⟩, 27), (⟨"ShortVectorsModel", "measure", "()V"⟩, 27), (⟨"ShortVectorsModel", "reaches", "(II)Z"⟩, 27)]
theorem lw_r3 : ∀ q ∈ lw_privs_3, lw_okq q := List.forall_mem_cons.mpr ⟨lw_p32, List.forall_mem_cons.mpr ⟨lw_p33, List.forall_mem_cons.mpr ⟨lw_p34, List.forall_mem_cons.mpr ⟨lw_p35, List.forall_mem_cons.mpr ⟨lw_p36, List.forall_mem_cons.mpr ⟨lw_p37, List.forall_mem_cons.mpr ⟨lw_p38, List.forall_mem_cons.mpr ⟨lw_p39, List.forall_mem_cons.mpr ⟨lw_p40, List.forall_mem_cons.mpr ⟨lw_p41, List.forall_mem_cons.mpr ⟨lw_p42, List.forall_mem_cons.mpr ⟨lw_p43, List.forall_mem_cons.mpr ⟨lw_p44, List.forall_mem_cons.mpr ⟨lw_p45, List.forall_mem_cons.mpr ⟨lw_p46, List.forall_mem_cons.mpr ⟨lw_p47, fun _ h => absurd h List.not_mem_nil⟩⟩⟩⟩⟩⟩⟩⟩⟩⟩⟩⟩⟩⟩⟩⟩
theorem lw_p48 : lw_okq (⟨"ShortVectorsModel", "seek", "(IIII)V"⟩, 27) := ⟨⟨by decide +kernel, by decide +kernel⟩, List.mem_of_getElem? (i := 485) (by decide +kernel), List.mem_of_getElem? (i := 752) (by decide +kernel), List.mem_of_getElem? (i := 753) (by decide +kernel)⟩
def lw_privs_4 : List (MethodName × Nat) := [(⟨"ShortVectorsModel", "seek", "(IIII)V"⟩, 27)]
theorem lw_r4 : ∀ q ∈ lw_privs_4, lw_okq q := List.forall_mem_cons.mpr ⟨lw_p48, fun _ h => absurd h List.not_mem_nil⟩
def lw_privs : List (MethodName × Nat) := lw_privs_1 ++ (lw_privs_2 ++ (lw_privs_3 ++ (lw_privs_4)))
def lw_tbl : List Cond := k2_sels lw_privs ++ tables_1
theorem lw_privs_ok : ∀ q ∈ lw_privs, lw_okq q := by
  show ∀ q ∈ lw_privs_1 ++ (lw_privs_2 ++ (lw_privs_3 ++ (lw_privs_4))), lw_okq q
  exact List.forall_mem_append.mpr ⟨lw_r1, List.forall_mem_append.mpr ⟨lw_r2, List.forall_mem_append.mpr ⟨lw_r3, lw_r4⟩⟩⟩
/-- the words of the tables that a call may hand on -/
def utbl : List Cond := lw_tbl.filter goodWord
theorem u_mem {w : Cond} (h : w ∈ lw_tbl) (hg : goodWord w = true) : w ∈ utbl := List.mem_filter.mpr ⟨h, hg⟩
def uw (y : MethodName) (b : ByteArray) (n : Nat) (r : Option FieldType) : List Cond := .code y b n r :: utbl
theorem uw_in {y : MethodName} {b : ByteArray} {n : Nat} {r : Option FieldType} (h : Cond.code y b n r ∈ utbl) : GoodIn utbl (uw y b n r) := by
  intro w hw
  have h1 : w ∈ utbl := by
    rcases List.mem_cons.mp hw with e | e
    · rw [e]; exact h
    · exact e
  exact ⟨h1, good_of_word (List.mem_filter.mp h1).2⟩
def RM : String := "ShortVectorsModel"
def TM : u_T := fun k => match k with
  | 0 => ("ShortVectorsModel", "many", "I", false)
  | 1 => ("ShortVectorsModel", "generator", "[I", true)
  | 2 => ("ShortVectorsModel", "known", "Z", false)
  | 3 => ("ShortVectorsModel", "without", "I", false)
  | 4 => ("ShortVectorsModel", "rows", "I", false)
  | 5 => ("ShortVectorsModel", "row", "[J", true)
  | 6 => ("ShortVectorsModel", "pivot", "[I", true)
  | 7 => ("ShortVectorsModel", "fresh", "[J", true)
  | 8 => ("ShortVectorsModel", "multiple", "[J", true)
  | 9 => ("ShortVectorsModel", "last", "[J", true)
  | 10 => ("ShortVectorsModel", "made", "[J", true)
  | 11 => ("ShortVectorsModel", "settled", "[J", true)
  | 12 => ("ShortVectorsModel", "point", "[J", true)
  | 13 => ("ShortVectorsModel", "limit", "J", false)
  | 14 => ("ShortVectorsModel", "mode", "I", false)
  | 15 => ("ShortVectorsModel", "counted", "I", false)
  | 16 => ("ShortVectorsModel", "listed", "Z", false)
  | 17 => ("ShortVectorsModel", "held", "I", false)
  | 18 => ("ShortVectorsModel", "first", "[J", true)
  | 19 => ("ShortVectorsModel", "squares", "[J", true)
  | 20 => ("ShortVectorsModel", "wanted", "I", false)
  | 21 => ("ShortVectorsModel", "spanned", "I", false)
  | 22 => ("ShortVectorsModel", "span", "[J", true)
  | 23 => ("ShortVectorsModel", "minima", "[I", true)
  | 24 => ("ShortVectorsModel", "measured", "Z", false)
  | 25 => ("ShortVectorsModel", "found", "[J", true)
  | _ => ("ShortVectorsModel", "any", "Z", false)
def tyM : Nat → FieldType := fun k => match k with
  | 0 => .int
  | 1 => .array .int
  | 2 => .boolean
  | 3 => .int
  | 4 => .int
  | 5 => .array .long
  | 6 => .array .int
  | 7 => .array .long
  | 8 => .array .long
  | 9 => .array .long
  | 10 => .array .long
  | 11 => .array .long
  | 12 => .array .long
  | 13 => .long
  | 14 => .int
  | 15 => .int
  | 16 => .boolean
  | 17 => .int
  | 18 => .array .long
  | 19 => .array .long
  | 20 => .int
  | 21 => .int
  | 22 => .array .long
  | 23 => .array .int
  | 24 => .boolean
  | 25 => .array .long
  | _ => .boolean
theorem nmM : ∀ a, a < 27 → ∀ b, b < 27 → a ≠ b → (TM a).2.1 ≠ (TM b).2.1 := by decide +kernel
theorem tyM_ok : ∀ k, k < 27 → parseFieldDescriptor (TM k).2.2.1 = some (tyM k) := by decide +kernel
theorem wsM_ok : ∀ w ∈ u_ws RM TM 27, w ∈ utbl := fun w h => u_mem ((show ∀ w ∈ u_ws RM TM 27, w ∈ lw_tbl by decide +kernel) w h) ((show ∀ w ∈ u_ws RM TM 27, goodWord w = true by decide +kernel) w h)
def RV : String := "ShortVectors"
def TV : u_T := fun k => match k with
  | 0 => ("ShortVectors", "added", "[[J", true)
  | 1 => ("ShortVectors", "asked", "[J", true)
  | 2 => ("ShortVectors", "echelon", "LShortVectors$Echelon;", true)
  | 3 => ("ShortVectors", "others", "LShortVectors$Echelon;", true)
  | 4 => ("ShortVectors", "basis", "LShortVectors$Basis;", true)
  | 5 => ("ShortVectors", "tally", "LShortVectors$Tally;", true)
  | 6 => ("ShortVectors", "first", "LShortVectors$FirstVectors;", true)
  | 7 => ("ShortVectors", "closest", "LShortVectors$Closest;", true)
  | 8 => ("ShortVectors", "held", "I", false)
  | 9 => ("ShortVectors", "reduced", "Z", false)
  | 10 => ("ShortVectors", "tallied", "Z", false)
  | _ => ("ShortVectors", "listed", "Z", false)
def tyV : Nat → FieldType := fun k => match k with
  | 0 => .array (.array .long)
  | 1 => .array .long
  | 2 => .object "ShortVectors$Echelon"
  | 3 => .object "ShortVectors$Echelon"
  | 4 => .object "ShortVectors$Basis"
  | 5 => .object "ShortVectors$Tally"
  | 6 => .object "ShortVectors$FirstVectors"
  | 7 => .object "ShortVectors$Closest"
  | 8 => .int
  | 9 => .boolean
  | 10 => .boolean
  | _ => .boolean
theorem nmV : ∀ a, a < 12 → ∀ b, b < 12 → a ≠ b → (TV a).2.1 ≠ (TV b).2.1 := by decide +kernel
theorem tyV_ok : ∀ k, k < 12 → parseFieldDescriptor (TV k).2.2.1 = some (tyV k) := by decide +kernel
theorem wsV_ok : ∀ w ∈ u_ws RV TV 12, w ∈ utbl := fun w h => u_mem ((show ∀ w ∈ u_ws RV TV 12, w ∈ lw_tbl by decide +kernel) w h) ((show ∀ w ∈ u_ws RV TV 12, goodWord w = true by decide +kernel) w h)
def RE : String := "ShortVectors$Echelon"
def TE : u_T := fun k => match k with
  | 0 => ("ShortVectors$Echelon", "rows", "[[J", true)
  | _ => ("ShortVectors$Echelon", "rest", "[J", true)
def tyE : Nat → FieldType := fun k => match k with
  | 0 => .array (.array .long)
  | _ => .array .long
theorem nmE : ∀ a, a < 2 → ∀ b, b < 2 → a ≠ b → (TE a).2.1 ≠ (TE b).2.1 := by decide +kernel
theorem tyE_ok : ∀ k, k < 2 → parseFieldDescriptor (TE k).2.2.1 = some (tyE k) := by decide +kernel
theorem wsE_ok : ∀ w ∈ u_ws RE TE 2, w ∈ utbl := fun w h => u_mem ((show ∀ w ∈ u_ws RE TE 2, w ∈ lw_tbl by decide +kernel) w h) ((show ∀ w ∈ u_ws RE TE 2, goodWord w = true by decide +kernel) w h)
def RB : String := "ShortVectors$Basis"
def TB : u_T := fun k => match k with
  | 0 => ("ShortVectors$Basis", "rows", "[[J", true)
  | 1 => ("ShortVectors$Basis", "directions", "[[J", true)
  | 2 => ("ShortVectors$Basis", "directionSquares", "[J", true)
  | 3 => ("ShortVectors$Basis", "strides", "[J", true)
  | 4 => ("ShortVectors$Basis", "sums", "[[J", true)
  | 5 => ("ShortVectors$Basis", "minors", "[[J", true)
  | 6 => ("ShortVectors$Basis", "trial", "[J", true)
  | _ => ("ShortVectors$Basis", "size", "I", false)
def tyB : Nat → FieldType := fun k => match k with
  | 0 => .array (.array .long)
  | 1 => .array (.array .long)
  | 2 => .array .long
  | 3 => .array .long
  | 4 => .array (.array .long)
  | 5 => .array (.array .long)
  | 6 => .array .long
  | _ => .int
theorem nmB : ∀ a, a < 8 → ∀ b, b < 8 → a ≠ b → (TB a).2.1 ≠ (TB b).2.1 := by decide +kernel
theorem tyB_ok : ∀ k, k < 8 → parseFieldDescriptor (TB k).2.2.1 = some (tyB k) := by decide +kernel
theorem wsB_ok : ∀ w ∈ u_ws RB TB 8, w ∈ utbl := fun w h => u_mem ((show ∀ w ∈ u_ws RB TB 8, w ∈ lw_tbl by decide +kernel) w h) ((show ∀ w ∈ u_ws RB TB 8, goodWord w = true by decide +kernel) w h)
def RT : String := "ShortVectors$Tally"
def TT : u_T := fun k => match k with
  | 0 => ("ShortVectors$Collector", "goal", "[J", true)
  | 1 => ("ShortVectors$Collector", "budget", "J", false)
  | _ => ("ShortVectors$Tally", "sums", "[I", true)
def tyT : Nat → FieldType := fun k => match k with
  | 0 => .array .long
  | 1 => .long
  | _ => .array .int
theorem nmT : ∀ a, a < 3 → ∀ b, b < 3 → a ≠ b → (TT a).2.1 ≠ (TT b).2.1 := by decide +kernel
theorem tyT_ok : ∀ k, k < 3 → parseFieldDescriptor (TT k).2.2.1 = some (tyT k) := by decide +kernel
theorem wsT_ok : ∀ w ∈ u_ws RT TT 3, w ∈ utbl := fun w h => u_mem ((show ∀ w ∈ u_ws RT TT 3, w ∈ lw_tbl by decide +kernel) w h) ((show ∀ w ∈ u_ws RT TT 3, goodWord w = true by decide +kernel) w h)
def RF : String := "ShortVectors$FirstVectors"
def TF : u_T := fun k => match k with
  | 0 => ("ShortVectors$Collector", "goal", "[J", true)
  | 1 => ("ShortVectors$Collector", "budget", "J", false)
  | 2 => ("ShortVectors$FirstVectors", "vectors", "[[J", true)
  | 3 => ("ShortVectors$FirstVectors", "squares", "[J", true)
  | _ => ("ShortVectors$FirstVectors", "listLength", "I", false)
def tyF : Nat → FieldType := fun k => match k with
  | 0 => .array .long
  | 1 => .long
  | 2 => .array (.array .long)
  | 3 => .array .long
  | _ => .int
theorem nmF : ∀ a, a < 5 → ∀ b, b < 5 → a ≠ b → (TF a).2.1 ≠ (TF b).2.1 := by decide +kernel
theorem tyF_ok : ∀ k, k < 5 → parseFieldDescriptor (TF k).2.2.1 = some (tyF k) := by decide +kernel
theorem wsF_ok : ∀ w ∈ u_ws RF TF 5, w ∈ utbl := fun w h => u_mem ((show ∀ w ∈ u_ws RF TF 5, w ∈ lw_tbl by decide +kernel) w h) ((show ∀ w ∈ u_ws RF TF 5, goodWord w = true by decide +kernel) w h)
def RC : String := "ShortVectors$Closest"
def TC : u_T := fun k => match k with
  | 0 => ("ShortVectors$Collector", "goal", "[J", true)
  | 1 => ("ShortVectors$Collector", "budget", "J", false)
  | 2 => ("ShortVectors$Closest", "best", "[J", true)
  | _ => ("ShortVectors$Closest", "bestSquare", "J", false)
def tyC : Nat → FieldType := fun k => match k with
  | 0 => .array .long
  | 1 => .long
  | 2 => .array .long
  | _ => .long
theorem nmC : ∀ a, a < 4 → ∀ b, b < 4 → a ≠ b → (TC a).2.1 ≠ (TC b).2.1 := by decide +kernel
theorem tyC_ok : ∀ k, k < 4 → parseFieldDescriptor (TC k).2.2.1 = some (tyC k) := by decide +kernel
theorem wsC_ok : ∀ w ∈ u_ws RC TC 4, w ∈ utbl := fun w h => u_mem ((show ∀ w ∈ u_ws RC TC 4, w ∈ lw_tbl by decide +kernel) w h) ((show ∀ w ∈ u_ws RC TC 4, goodWord w = true by decide +kernel) w h)
abbrev classes : List vw_C := [(RM, TM, 27), (RV, TV, 12), (RE, TE, 2), (RB, TB, 8), (RT, TT, 3), (RF, TF, 5), (RC, TC, 4)]
/-! the world: NW cells at fixed addresses, their contents a function of the place -/
def NW : Nat := 114
abbrev ctx : Type := (Nat → Nat) × ClassId × ClassId × ClassId
abbrev tysOf (κ : ctx) : List (ClassId × FieldType) := [(κ.2.1, .int), (κ.2.2.1, .long), (κ.2.2.2, .array .long)]
def wl (h : Nat → Nat) (L : Nat → va_E) : va_W := (List.range NW).map (fun k => (h k, L k))
theorem wl_get {h : Nat → Nat} {L : Nat → va_E} {k : Nat} (hk : k < NW) : (wl h L)[k]? = some (h k, L k) := by
  simp [wl, hk]
theorem wl_lt {h : Nat → Nat} {L : Nat → va_E} {k : Nat} {q : Nat × va_E} (hk : (wl h L)[k]? = some q) : k < NW ∧ q = (h k, L k) := by
  have h1 : k < (wl h L).length := (List.getElem?_eq_some_iff.mp hk).1
  have h2 : k < NW := by simpa [wl] using h1
  rw [wl_get h2] at hk
  exact ⟨h2, (Option.some.inj hk).symm⟩
theorem wl_set {h : Nat → Nat} {L : Nat → va_E} {k : Nat} {e : va_E} : (wl h L).set k (h k, e) = wl h (va_up L k e) := by
  apply List.ext_getElem?
  intro j
  by_cases hj : j < NW
  · rw [wl_get hj, List.getElem?_set]
    by_cases e1 : k = j
    · subst e1
      simp [wl, hj, va_up]
    · have : j ≠ k := fun q => e1 q.symm
      simp [e1, wl_get hj, va_up, this]
  · have h1 : (wl h (va_up L k e))[j]? = none := List.getElem?_eq_none (by simp [wl]; omega)
    have h2 : ((wl h L).set k (h k, e))[j]? = none := List.getElem?_eq_none (by simp [wl]; omega)
    rw [h1, h2]
theorem wl_D {h : Nat → Nat} {L : Nat → va_E} {A : Nat → Prop} (hi : ∀ i j, i < NW → j < NW → h i = h j → i = j) (hA : ∀ k, k < NW → A (h k)) : va_D A (wl h L) := by
  refine ⟨fun i j p q hp hq e => ?_, fun k q hk => ?_⟩
  · obtain ⟨a, rfl⟩ := wl_lt hp
    obtain ⟨b, rfl⟩ := wl_lt hq
    exact hi i j a b e
  · obtain ⟨a, rfl⟩ := wl_lt hk
    exact hA k a
theorem wl_A {h : Nat → Nat} {L : Nat → va_E} {sz : Nat} {k : Nat} (hk : k < NW) : va_A (wl h L) sz (h k) := Or.inl ⟨k, L k, wl_get hk⟩
theorem wl_Ain {h : Nat → Nat} {L : Nat → va_E} {sz : Nat} {A : Nat → Prop} (hA : ∀ k, k < NW → A (h k)) (hs : ∀ q, sz ≤ q → A q) : ∀ q, va_A (wl h L) sz q → A q := by
  intro q hq
  rcases hq with ⟨k, e, hk⟩ | hq
  · obtain ⟨a, b⟩ := wl_lt hk
    rw [(Prod.mk.inj b).1]
    exact hA k a
  · exact hs q hq
/-! the words of nest mates, carried beside the others -/
def isNest (w : Cond) : Bool := match w with | .methodLinkNest .. => true | .declares _ => true | _ => false
def NS (U : State) : Prop := ∀ w ∈ lw_tbl, isNest w = true → va_Nw w U
theorem NS.warm {s U : State} (hW : s.WarmedH U.vm) (h : NS s) : NS U := by
  intro w hw hn
  have h1 := h w hw hn
  cases w <;> first | exact va_Nw.warmM hW h1 | exact va_Nw.warmD hW h1 | (simp [isNest] at hn)
theorem NS.same {u U : State} (hv : u.vm = U.vm) (h : NS u) : NS U := by
  intro w hw hn
  have h1 := h w hw hn
  cases w <;> first | exact va_Nw.same rfl hv h1 | (simp [isNest] at hn)
/-! the judgement -/
abbrev Gm : Type := Program × Launch × Env × Room × State × MethodId × Array Value × List Frame × Method × Code × Nat × Nat × (State → Prop) × va_G × (Nat → Prop)
def J (g : Gm) (κ : ctx) (nL : Nat) (pc : Nat) (lv : List (Nat × Value)) (st : List Value) (L : Nat → va_E) : Prop :=
  match g with
  | (p, l, e, R, s, m, args, below, meth, c, cells, slots, Q, D, A) => ∀ (H : Heap) (locs : List Loc) (ls : Array Slot), va_P D classes (wl κ.1 L) H → va_S A s.heap H locs → lv_has ls nL lv → W p l e R s m args below meth c H locs cells slots Q (F0 m pc ls st)
def OK (g : Gm) (κ : ctx) (own : String) (cc : ByteArray) (nL : Nat) (ret : Option FieldType) (rm : Room) : Prop :=
  match g with
  | (p, _, _, R, s, m, args, _, meth, c, cells, slots, _, D, A) => p.tables.exec = Jvm.exec ∧ c.code = cc ∧ c.maxLocals = nL ∧ meth.sig.returnType = ret ∧ meth.locks = false ∧ s.vm.findClass own = some m.cls ∧ (∀ w ∈ utbl, w.before args s = true) ∧ va_K D classes (tysOf κ) s ∧ NS s ∧ (∀ i j, i < NW → j < NW → κ.1 i = κ.1 j → i = j) ∧ (∀ k, k < NW → A (κ.1 k)) ∧ (∀ q, s.heap.size ≤ q → A q) ∧ cells ≤ R.cells ∧ slots ≤ R.slots ∧ R = rm
def Qx (D : va_G) (κ : ctx) (A : Nat → Prop) (v : Option Value) (L' : Nat → va_E) : Array Value → State → Outcome → State → Prop := fun _ st oc t => (oc = .returned v ∧ va_P D classes (wl κ.1 L') t.heap) ∧ va_F A st t
/-- a return of v with the world L' is what the method's contract asks -/
def Fn (g : Gm) (κ : ctx) (v : Option Value) (L' : Nat → va_E) : Prop :=
  match g with
  | (_, _, _, _, s, _, args, below, _, _, cells, slots, Q, D, A) => Q = MQ below (Qx D κ A v L') args s cells slots A
def Pre (D : va_G) (κ : ctx) (L : Nat → va_E) (sz : Nat) (U : State) : Prop := U.heap.size = sz ∧ va_P D classes (wl κ.1 L) U.heap ∧ va_K D classes (tysOf κ) U ∧ NS U ∧ (∀ i j, i < NW → j < NW → κ.1 i = κ.1 j → i = j)
/-- THE CONTRACT: from the world L with the arguments av the method returns v with the world L' -/
def Mt (y : MethodName) (b : ByteArray) (nL : Nat) (ret : Option FieldType) (rm : Room) (κ : ctx) (av : List Value) (L : Nat → va_E) (v : Option Value) (L' : Nat → va_E) : Prop :=
  ∀ (l : Launch) (D : va_G) (sz : Nat), Met l y (uw y b nL ret) rm (va_Pc av (Pre D κ L sz)) (Qx D κ (va_A (wl κ.1 L) sz) v L') 0 0 (va_A (wl κ.1 L) sz)
theorem Mt.of {y : MethodName} {b : ByteArray} {nL : Nat} {ret : Option FieldType} {rm : Room} {κ : ctx} {av : List Value} {L L' : Nat → va_E} {v : Option Value} (hy : plainName y.cls = true) (hn : (lg_sl av).length ≤ nL)
    (body : ∀ g : Gm, OK g κ y.cls b nL ret rm → Fn g κ v L' → J g κ nL 0 (lv_args 0 av) [] L) : Mt y b nL ret rm κ av L v L' := by
  intro l D sz
  refine Met.ofW (cc := b) (maxL := nL) (ret := ret) hy rfl ?_
  intro p e s m args below meth c s₁ B hml hv
  obtain ⟨rfl, hsz, hP, hK, hN, hi⟩ := hv
  have hts := atoms_spec (ws := uw y b nL ret) B.pre
  have hown : s.vm.findClass y.cls = some m.cls := findClass_of_methodNamed B.named
  subst hsz
  have hl := lv_entry av (n := nL) hn
  rw [lg_entry_eq]
  exact body (p, l, e, rm, s, m, av.toArray, below, meth, c, 0, 0, MQ below (Qx D κ (va_A (wl κ.1 L) s.heap.size) v L') av.toArray s 0 0 (va_A (wl κ.1 L) s.heap.size), D, va_A (wl κ.1 L) s.heap.size)
    ⟨B.exec, B.bytes, hml, B.returns, B.notSynchronized, hown, fun w hw => hts w (List.mem_cons_of_mem _ hw), hK, hN, hi, fun k hk => wl_A hk, fun q hq => Or.inr hq, Nat.zero_le _, Nat.zero_le _, rfl⟩ rfl _ _ _ hP va_S.rf hl
end
section
theorem w_iconst {g : Gm} {κ : ctx} {own : String} {cc : ByteArray} {nL : Nat} {ret : Option FieldType} {rm : Room} (G : OK g κ own cc nL ret rm) {pc : Nat} {lv : List (Nat × Value)} {rest : List Value} {L : Nat → va_E} {n : Int} {v : Int32} (hd : decode cc pc = .ok (.iconst n, 1)) (hv : Int32.ofInt n = v) (k : J g κ nL (pc + 1) lv (.int v :: rest) L) : J g κ nL pc lv (rest) L := by
  obtain ⟨p, l, e, R, s, m, args, below, meth, c, cells, slots, Q, D, A⟩ := g
  obtain ⟨hx, hb, hml, hr, hlk, hown, hts, hK, hN, hi, hA1, hA2, hc, hs, hR⟩ := G
  intro H locs ls hP hS hl
  exact lv_iconst hx hb hd hv (k H locs ls hP hS hl)
theorem w_bipush {g : Gm} {κ : ctx} {own : String} {cc : ByteArray} {nL : Nat} {ret : Option FieldType} {rm : Room} (G : OK g κ own cc nL ret rm) {pc : Nat} {lv : List (Nat × Value)} {rest : List Value} {L : Nat → va_E} {n : Int} {v : Int32} (hd : decode cc pc = .ok (.bipush n, 2)) (hv : (Int8.ofInt n).toInt32 = v) (k : J g κ nL (pc + 2) lv (.int v :: rest) L) : J g κ nL pc lv (rest) L := by
  obtain ⟨p, l, e, R, s, m, args, below, meth, c, cells, slots, Q, D, A⟩ := g
  obtain ⟨hx, hb, hml, hr, hlk, hown, hts, hK, hN, hi, hA1, hA2, hc, hs, hR⟩ := G
  intro H locs ls hP hS hl
  exact lv_bipush hx hb hd hv (k H locs ls hP hS hl)
theorem w_sipush {g : Gm} {κ : ctx} {own : String} {cc : ByteArray} {nL : Nat} {ret : Option FieldType} {rm : Room} (G : OK g κ own cc nL ret rm) {pc : Nat} {lv : List (Nat × Value)} {rest : List Value} {L : Nat → va_E} {n : Int} {v : Int32} (hd : decode cc pc = .ok (.sipush n, 3)) (hv : (Int16.ofInt n).toInt32 = v) (k : J g κ nL (pc + 3) lv (.int v :: rest) L) : J g κ nL pc lv (rest) L := by
  obtain ⟨p, l, e, R, s, m, args, below, meth, c, cells, slots, Q, D, A⟩ := g
  obtain ⟨hx, hb, hml, hr, hlk, hown, hts, hK, hN, hi, hA1, hA2, hc, hs, hR⟩ := G
  intro H locs ls hP hS hl
  exact lv_sipush hx hb hd hv (k H locs ls hP hS hl)
theorem w_lconst {g : Gm} {κ : ctx} {own : String} {cc : ByteArray} {nL : Nat} {ret : Option FieldType} {rm : Room} (G : OK g κ own cc nL ret rm) {pc : Nat} {lv : List (Nat × Value)} {rest : List Value} {L : Nat → va_E} {n : Fin 2} {v : Int64} (hd : decode cc pc = .ok (.lconst n, 1)) (hv : Int64.ofNat (n : Nat) = v) (k : J g κ nL (pc + 1) lv (.long v :: rest) L) : J g κ nL pc lv (rest) L := by
  obtain ⟨p, l, e, R, s, m, args, below, meth, c, cells, slots, Q, D, A⟩ := g
  obtain ⟨hx, hb, hml, hr, hlk, hown, hts, hK, hN, hi, hA1, hA2, hc, hs, hR⟩ := G
  intro H locs ls hP hS hl
  exact lv_lconst hx hb hd hv (k H locs ls hP hS hl)
theorem w_iload_n {g : Gm} {κ : ctx} {own : String} {cc : ByteArray} {nL : Nat} {ret : Option FieldType} {rm : Room} (G : OK g κ own cc nL ret rm) {pc : Nat} {lv : List (Nat × Value)} {rest : List Value} {L : Nat → va_E} {k0 : Fin 4} {i q : Nat} {x : Int32} (hd : decode cc pc = .ok (.iload_n k0, 1)) (h0 : (k0 : Nat) = i) (hq : lv[q]? = some (i, .int x)) (k : J g κ nL (pc + 1) lv (.int x :: rest) L) : J g κ nL pc lv (rest) L := by
  obtain ⟨p, l, e, R, s, m, args, below, meth, c, cells, slots, Q, D, A⟩ := g
  obtain ⟨hx, hb, hml, hr, hlk, hown, hts, hK, hN, hi, hA1, hA2, hc, hs, hR⟩ := G
  intro H locs ls hP hS hl
  exact lv_iload_n hx hb hd h0 (lv_at hl q hq) (k H locs ls hP hS hl)
theorem w_iload {g : Gm} {κ : ctx} {own : String} {cc : ByteArray} {nL : Nat} {ret : Option FieldType} {rm : Room} (G : OK g κ own cc nL ret rm) {pc : Nat} {lv : List (Nat × Value)} {rest : List Value} {L : Nat → va_E} {i q : Nat} {x : Int32} (hd : decode cc pc = .ok (.iload i, 2)) (hq : lv[q]? = some (i, .int x)) (k : J g κ nL (pc + 2) lv (.int x :: rest) L) : J g κ nL pc lv (rest) L := by
  obtain ⟨p, l, e, R, s, m, args, below, meth, c, cells, slots, Q, D, A⟩ := g
  obtain ⟨hx, hb, hml, hr, hlk, hown, hts, hK, hN, hi, hA1, hA2, hc, hs, hR⟩ := G
  intro H locs ls hP hS hl
  exact lv_iload hx hb hd (lv_at hl q hq) (k H locs ls hP hS hl)
theorem w_istore_n {g : Gm} {κ : ctx} {own : String} {cc : ByteArray} {nL : Nat} {ret : Option FieldType} {rm : Room} (G : OK g κ own cc nL ret rm) {pc : Nat} {lv : List (Nat × Value)} {rest : List Value} {L : Nat → va_E} {k0 : Fin 4} {i : Nat} {x : Int32} {lv' : List (Nat × Value)} (hd : decode cc pc = .ok (.istore_n k0, 1)) (h0 : (k0 : Nat) = i) (hn : i < nL) (hv : (i, Value.int x) :: lv.filter (fun q => !(q.1 == i) && !(q.1 + 1 == i && q.2.category == 2)) = lv') (k : J g κ nL (pc + 1) lv' rest L) : J g κ nL pc lv (.int x :: rest) L := by
  obtain ⟨p, l, e, R, s, m, args, below, meth, c, cells, slots, Q, D, A⟩ := g
  obtain ⟨hx, hb, hml, hr, hlk, hown, hts, hK, hN, hi, hA1, hA2, hc, hs, hR⟩ := G
  intro H locs ls hP hS hl
  exact lv_istore_n hx hb hd h0 hl hn hv (fun ls' hl' => k H locs ls' hP hS hl')
theorem w_istore {g : Gm} {κ : ctx} {own : String} {cc : ByteArray} {nL : Nat} {ret : Option FieldType} {rm : Room} (G : OK g κ own cc nL ret rm) {pc : Nat} {lv : List (Nat × Value)} {rest : List Value} {L : Nat → va_E} {i : Nat} {x : Int32} {lv' : List (Nat × Value)} (hd : decode cc pc = .ok (.istore i, 2)) (hn : i < nL) (hv : (i, Value.int x) :: lv.filter (fun q => !(q.1 == i) && !(q.1 + 1 == i && q.2.category == 2)) = lv') (k : J g κ nL (pc + 2) lv' rest L) : J g κ nL pc lv (.int x :: rest) L := by
  obtain ⟨p, l, e, R, s, m, args, below, meth, c, cells, slots, Q, D, A⟩ := g
  obtain ⟨hx, hb, hml, hr, hlk, hown, hts, hK, hN, hi, hA1, hA2, hc, hs, hR⟩ := G
  intro H locs ls hP hS hl
  exact lv_istore hx hb hd hl hn hv (fun ls' hl' => k H locs ls' hP hS hl')
theorem w_lload_n {g : Gm} {κ : ctx} {own : String} {cc : ByteArray} {nL : Nat} {ret : Option FieldType} {rm : Room} (G : OK g κ own cc nL ret rm) {pc : Nat} {lv : List (Nat × Value)} {rest : List Value} {L : Nat → va_E} {k0 : Fin 4} {i q : Nat} {x : Int64} (hd : decode cc pc = .ok (.lload_n k0, 1)) (h0 : (k0 : Nat) = i) (hq : lv[q]? = some (i, .long x)) (k : J g κ nL (pc + 1) lv (.long x :: rest) L) : J g κ nL pc lv (rest) L := by
  obtain ⟨p, l, e, R, s, m, args, below, meth, c, cells, slots, Q, D, A⟩ := g
  obtain ⟨hx, hb, hml, hr, hlk, hown, hts, hK, hN, hi, hA1, hA2, hc, hs, hR⟩ := G
  intro H locs ls hP hS hl
  exact lv_lload_n hx hb hd h0 (lv_at hl q hq) (k H locs ls hP hS hl)
theorem w_lload {g : Gm} {κ : ctx} {own : String} {cc : ByteArray} {nL : Nat} {ret : Option FieldType} {rm : Room} (G : OK g κ own cc nL ret rm) {pc : Nat} {lv : List (Nat × Value)} {rest : List Value} {L : Nat → va_E} {i q : Nat} {x : Int64} (hd : decode cc pc = .ok (.lload i, 2)) (hq : lv[q]? = some (i, .long x)) (k : J g κ nL (pc + 2) lv (.long x :: rest) L) : J g κ nL pc lv (rest) L := by
  obtain ⟨p, l, e, R, s, m, args, below, meth, c, cells, slots, Q, D, A⟩ := g
  obtain ⟨hx, hb, hml, hr, hlk, hown, hts, hK, hN, hi, hA1, hA2, hc, hs, hR⟩ := G
  intro H locs ls hP hS hl
  exact lv_lload hx hb hd (lv_at hl q hq) (k H locs ls hP hS hl)
theorem w_lstore_n {g : Gm} {κ : ctx} {own : String} {cc : ByteArray} {nL : Nat} {ret : Option FieldType} {rm : Room} (G : OK g κ own cc nL ret rm) {pc : Nat} {lv : List (Nat × Value)} {rest : List Value} {L : Nat → va_E} {k0 : Fin 4} {i : Nat} {x : Int64} {lv' : List (Nat × Value)} (hd : decode cc pc = .ok (.lstore_n k0, 1)) (h0 : (k0 : Nat) = i) (hn : i + 1 < nL) (hv : (i, Value.long x) :: lv.filter (fun q => !(q.1 == i) && (!(q.1 == i + 1) && !(q.1 + 1 == i && q.2.category == 2))) = lv') (k : J g κ nL (pc + 1) lv' rest L) : J g κ nL pc lv (.long x :: rest) L := by
  obtain ⟨p, l, e, R, s, m, args, below, meth, c, cells, slots, Q, D, A⟩ := g
  obtain ⟨hx, hb, hml, hr, hlk, hown, hts, hK, hN, hi, hA1, hA2, hc, hs, hR⟩ := G
  intro H locs ls hP hS hl
  exact lv_lstore_n hx hb hd h0 hl hn hv (fun ls' hl' => k H locs ls' hP hS hl')
theorem w_lstore {g : Gm} {κ : ctx} {own : String} {cc : ByteArray} {nL : Nat} {ret : Option FieldType} {rm : Room} (G : OK g κ own cc nL ret rm) {pc : Nat} {lv : List (Nat × Value)} {rest : List Value} {L : Nat → va_E} {i : Nat} {x : Int64} {lv' : List (Nat × Value)} (hd : decode cc pc = .ok (.lstore i, 2)) (hn : i + 1 < nL) (hv : (i, Value.long x) :: lv.filter (fun q => !(q.1 == i) && (!(q.1 == i + 1) && !(q.1 + 1 == i && q.2.category == 2))) = lv') (k : J g κ nL (pc + 2) lv' rest L) : J g κ nL pc lv (.long x :: rest) L := by
  obtain ⟨p, l, e, R, s, m, args, below, meth, c, cells, slots, Q, D, A⟩ := g
  obtain ⟨hx, hb, hml, hr, hlk, hown, hts, hK, hN, hi, hA1, hA2, hc, hs, hR⟩ := G
  intro H locs ls hP hS hl
  exact lv_lstore hx hb hd hl hn hv (fun ls' hl' => k H locs ls' hP hS hl')
theorem w_aload_n {g : Gm} {κ : ctx} {own : String} {cc : ByteArray} {nL : Nat} {ret : Option FieldType} {rm : Room} (G : OK g κ own cc nL ret rm) {pc : Nat} {lv : List (Nat × Value)} {rest : List Value} {L : Nat → va_E} {k0 : Fin 4} {i q : Nat} {x : Nat} (hd : decode cc pc = .ok (.aload_n k0, 1)) (h0 : (k0 : Nat) = i) (hq : lv[q]? = some (i, .ref x)) (k : J g κ nL (pc + 1) lv (.ref x :: rest) L) : J g κ nL pc lv (rest) L := by
  obtain ⟨p, l, e, R, s, m, args, below, meth, c, cells, slots, Q, D, A⟩ := g
  obtain ⟨hx, hb, hml, hr, hlk, hown, hts, hK, hN, hi, hA1, hA2, hc, hs, hR⟩ := G
  intro H locs ls hP hS hl
  exact lv_aload_n hx hb hd h0 (lv_at hl q hq) (k H locs ls hP hS hl)
theorem w_aload {g : Gm} {κ : ctx} {own : String} {cc : ByteArray} {nL : Nat} {ret : Option FieldType} {rm : Room} (G : OK g κ own cc nL ret rm) {pc : Nat} {lv : List (Nat × Value)} {rest : List Value} {L : Nat → va_E} {i q : Nat} {x : Nat} (hd : decode cc pc = .ok (.aload i, 2)) (hq : lv[q]? = some (i, .ref x)) (k : J g κ nL (pc + 2) lv (.ref x :: rest) L) : J g κ nL pc lv (rest) L := by
  obtain ⟨p, l, e, R, s, m, args, below, meth, c, cells, slots, Q, D, A⟩ := g
  obtain ⟨hx, hb, hml, hr, hlk, hown, hts, hK, hN, hi, hA1, hA2, hc, hs, hR⟩ := G
  intro H locs ls hP hS hl
  exact lv_aload hx hb hd (lv_at hl q hq) (k H locs ls hP hS hl)
theorem w_astore_n {g : Gm} {κ : ctx} {own : String} {cc : ByteArray} {nL : Nat} {ret : Option FieldType} {rm : Room} (G : OK g κ own cc nL ret rm) {pc : Nat} {lv : List (Nat × Value)} {rest : List Value} {L : Nat → va_E} {k0 : Fin 4} {i : Nat} {x : Nat} {lv' : List (Nat × Value)} (hd : decode cc pc = .ok (.astore_n k0, 1)) (h0 : (k0 : Nat) = i) (hn : i < nL) (hv : (i, Value.ref x) :: lv.filter (fun q => !(q.1 == i) && !(q.1 + 1 == i && q.2.category == 2)) = lv') (k : J g κ nL (pc + 1) lv' rest L) : J g κ nL pc lv (.ref x :: rest) L := by
  obtain ⟨p, l, e, R, s, m, args, below, meth, c, cells, slots, Q, D, A⟩ := g
  obtain ⟨hx, hb, hml, hr, hlk, hown, hts, hK, hN, hi, hA1, hA2, hc, hs, hR⟩ := G
  intro H locs ls hP hS hl
  exact lv_astore_n hx hb hd h0 hl hn hv (fun ls' hl' => k H locs ls' hP hS hl')
theorem w_astore {g : Gm} {κ : ctx} {own : String} {cc : ByteArray} {nL : Nat} {ret : Option FieldType} {rm : Room} (G : OK g κ own cc nL ret rm) {pc : Nat} {lv : List (Nat × Value)} {rest : List Value} {L : Nat → va_E} {i : Nat} {x : Nat} {lv' : List (Nat × Value)} (hd : decode cc pc = .ok (.astore i, 2)) (hn : i < nL) (hv : (i, Value.ref x) :: lv.filter (fun q => !(q.1 == i) && !(q.1 + 1 == i && q.2.category == 2)) = lv') (k : J g κ nL (pc + 2) lv' rest L) : J g κ nL pc lv (.ref x :: rest) L := by
  obtain ⟨p, l, e, R, s, m, args, below, meth, c, cells, slots, Q, D, A⟩ := g
  obtain ⟨hx, hb, hml, hr, hlk, hown, hts, hK, hN, hi, hA1, hA2, hc, hs, hR⟩ := G
  intro H locs ls hP hS hl
  exact lv_astore hx hb hd hl hn hv (fun ls' hl' => k H locs ls' hP hS hl')
theorem w_iinc {g : Gm} {κ : ctx} {own : String} {cc : ByteArray} {nL : Nat} {ret : Option FieldType} {rm : Room} (G : OK g κ own cc nL ret rm) {pc : Nat} {lv : List (Nat × Value)} {rest : List Value} {L : Nat → va_E} {i q0 : Nat} {n : Int} {x v : Int32} {lv' : List (Nat × Value)} (hd : decode cc pc = .ok (.iinc i n, 3)) (hq : lv[q0]? = some (i, .int x)) (hv : x + Int32.ofInt n = v) (hn : i < nL) (hl' : (i, Value.int v) :: lv.filter (fun q => !(q.1 == i) && !(q.1 + 1 == i && q.2.category == 2)) = lv') (k : J g κ nL (pc + 3) lv' rest L) : J g κ nL pc lv rest L := by
  obtain ⟨p, l, e, R, s, m, args, below, meth, c, cells, slots, Q, D, A⟩ := g
  obtain ⟨hx, hb, hml, hr, hlk, hown, hts, hK, hN, hi, hA1, hA2, hc, hs, hR⟩ := G
  intro H locs ls hP hS hl
  exact lv_iinc hx hb hd hl hq hv hn hl' (fun ls1 hl1 => k H locs ls1 hP hS hl1)
theorem w_iadd {g : Gm} {κ : ctx} {own : String} {cc : ByteArray} {nL : Nat} {ret : Option FieldType} {rm : Room} (G : OK g κ own cc nL ret rm) {pc : Nat} {lv : List (Nat × Value)} {rest : List Value} {L : Nat → va_E} {x y : Int32} (hd : decode cc pc = .ok (.iadd, 1)) (k : J g κ nL (pc + 1) lv (.int (x + y) :: rest) L) : J g κ nL pc lv (.int y :: .int x :: rest) L := by
  obtain ⟨p, l, e, R, s, m, args, below, meth, c, cells, slots, Q, D, A⟩ := g
  obtain ⟨hx, hb, hml, hr, hlk, hown, hts, hK, hN, hi, hA1, hA2, hc, hs, hR⟩ := G
  intro H locs ls hP hS hl
  exact lv_iadd hx hb hd (k H locs ls hP hS hl)
theorem w_isub {g : Gm} {κ : ctx} {own : String} {cc : ByteArray} {nL : Nat} {ret : Option FieldType} {rm : Room} (G : OK g κ own cc nL ret rm) {pc : Nat} {lv : List (Nat × Value)} {rest : List Value} {L : Nat → va_E} {x y : Int32} (hd : decode cc pc = .ok (.isub, 1)) (k : J g κ nL (pc + 1) lv (.int (x - y) :: rest) L) : J g κ nL pc lv (.int y :: .int x :: rest) L := by
  obtain ⟨p, l, e, R, s, m, args, below, meth, c, cells, slots, Q, D, A⟩ := g
  obtain ⟨hx, hb, hml, hr, hlk, hown, hts, hK, hN, hi, hA1, hA2, hc, hs, hR⟩ := G
  intro H locs ls hP hS hl
  exact lv_isub hx hb hd (k H locs ls hP hS hl)
theorem w_imul {g : Gm} {κ : ctx} {own : String} {cc : ByteArray} {nL : Nat} {ret : Option FieldType} {rm : Room} (G : OK g κ own cc nL ret rm) {pc : Nat} {lv : List (Nat × Value)} {rest : List Value} {L : Nat → va_E} {x y : Int32} (hd : decode cc pc = .ok (.imul, 1)) (k : J g κ nL (pc + 1) lv (.int (x * y) :: rest) L) : J g κ nL pc lv (.int y :: .int x :: rest) L := by
  obtain ⟨p, l, e, R, s, m, args, below, meth, c, cells, slots, Q, D, A⟩ := g
  obtain ⟨hx, hb, hml, hr, hlk, hown, hts, hK, hN, hi, hA1, hA2, hc, hs, hR⟩ := G
  intro H locs ls hP hS hl
  exact lv_imul hx hb hd (k H locs ls hP hS hl)
theorem w_iand {g : Gm} {κ : ctx} {own : String} {cc : ByteArray} {nL : Nat} {ret : Option FieldType} {rm : Room} (G : OK g κ own cc nL ret rm) {pc : Nat} {lv : List (Nat × Value)} {rest : List Value} {L : Nat → va_E} {x y : Int32} (hd : decode cc pc = .ok (.iand, 1)) (k : J g κ nL (pc + 1) lv (.int (x &&& y) :: rest) L) : J g κ nL pc lv (.int y :: .int x :: rest) L := by
  obtain ⟨p, l, e, R, s, m, args, below, meth, c, cells, slots, Q, D, A⟩ := g
  obtain ⟨hx, hb, hml, hr, hlk, hown, hts, hK, hN, hi, hA1, hA2, hc, hs, hR⟩ := G
  intro H locs ls hP hS hl
  exact lv_iand hx hb hd (k H locs ls hP hS hl)
theorem w_ladd {g : Gm} {κ : ctx} {own : String} {cc : ByteArray} {nL : Nat} {ret : Option FieldType} {rm : Room} (G : OK g κ own cc nL ret rm) {pc : Nat} {lv : List (Nat × Value)} {rest : List Value} {L : Nat → va_E} {x y : Int64} (hd : decode cc pc = .ok (.ladd, 1)) (k : J g κ nL (pc + 1) lv (.long (x + y) :: rest) L) : J g κ nL pc lv (.long y :: .long x :: rest) L := by
  obtain ⟨p, l, e, R, s, m, args, below, meth, c, cells, slots, Q, D, A⟩ := g
  obtain ⟨hx, hb, hml, hr, hlk, hown, hts, hK, hN, hi, hA1, hA2, hc, hs, hR⟩ := G
  intro H locs ls hP hS hl
  exact lv_ladd hx hb hd (k H locs ls hP hS hl)
theorem w_lsub {g : Gm} {κ : ctx} {own : String} {cc : ByteArray} {nL : Nat} {ret : Option FieldType} {rm : Room} (G : OK g κ own cc nL ret rm) {pc : Nat} {lv : List (Nat × Value)} {rest : List Value} {L : Nat → va_E} {x y : Int64} (hd : decode cc pc = .ok (.lsub, 1)) (k : J g κ nL (pc + 1) lv (.long (x - y) :: rest) L) : J g κ nL pc lv (.long y :: .long x :: rest) L := by
  obtain ⟨p, l, e, R, s, m, args, below, meth, c, cells, slots, Q, D, A⟩ := g
  obtain ⟨hx, hb, hml, hr, hlk, hown, hts, hK, hN, hi, hA1, hA2, hc, hs, hR⟩ := G
  intro H locs ls hP hS hl
  exact lv_lsub hx hb hd (k H locs ls hP hS hl)
theorem w_lmul {g : Gm} {κ : ctx} {own : String} {cc : ByteArray} {nL : Nat} {ret : Option FieldType} {rm : Room} (G : OK g κ own cc nL ret rm) {pc : Nat} {lv : List (Nat × Value)} {rest : List Value} {L : Nat → va_E} {x y : Int64} (hd : decode cc pc = .ok (.lmul, 1)) (k : J g κ nL (pc + 1) lv (.long (x * y) :: rest) L) : J g κ nL pc lv (.long y :: .long x :: rest) L := by
  obtain ⟨p, l, e, R, s, m, args, below, meth, c, cells, slots, Q, D, A⟩ := g
  obtain ⟨hx, hb, hml, hr, hlk, hown, hts, hK, hN, hi, hA1, hA2, hc, hs, hR⟩ := G
  intro H locs ls hP hS hl
  exact lv_lmul hx hb hd (k H locs ls hP hS hl)
theorem w_lxor {g : Gm} {κ : ctx} {own : String} {cc : ByteArray} {nL : Nat} {ret : Option FieldType} {rm : Room} (G : OK g κ own cc nL ret rm) {pc : Nat} {lv : List (Nat × Value)} {rest : List Value} {L : Nat → va_E} {x y : Int64} (hd : decode cc pc = .ok (.lxor, 1)) (k : J g κ nL (pc + 1) lv (.long (x ^^^ y) :: rest) L) : J g κ nL pc lv (.long y :: .long x :: rest) L := by
  obtain ⟨p, l, e, R, s, m, args, below, meth, c, cells, slots, Q, D, A⟩ := g
  obtain ⟨hx, hb, hml, hr, hlk, hown, hts, hK, hN, hi, hA1, hA2, hc, hs, hR⟩ := G
  intro H locs ls hP hS hl
  exact lv_lxor hx hb hd (k H locs ls hP hS hl)
theorem w_idiv {g : Gm} {κ : ctx} {own : String} {cc : ByteArray} {nL : Nat} {ret : Option FieldType} {rm : Room} (G : OK g κ own cc nL ret rm) {pc : Nat} {lv : List (Nat × Value)} {rest : List Value} {L : Nat → va_E} {x y : Int32} (hd : decode cc pc = .ok (.idiv, 1)) (hne : ¬ y = 0) (k : J g κ nL (pc + 1) lv (.int (x / y) :: rest) L) : J g κ nL pc lv (.int y :: .int x :: rest) L := by
  obtain ⟨p, l, e, R, s, m, args, below, meth, c, cells, slots, Q, D, A⟩ := g
  obtain ⟨hx, hb, hml, hr, hlk, hown, hts, hK, hN, hi, hA1, hA2, hc, hs, hR⟩ := G
  intro H locs ls hP hS hl
  exact lv_idiv hx hb hd hne (k H locs ls hP hS hl)
theorem w_irem {g : Gm} {κ : ctx} {own : String} {cc : ByteArray} {nL : Nat} {ret : Option FieldType} {rm : Room} (G : OK g κ own cc nL ret rm) {pc : Nat} {lv : List (Nat × Value)} {rest : List Value} {L : Nat → va_E} {x y : Int32} (hd : decode cc pc = .ok (.irem, 1)) (hne : ¬ y = 0) (k : J g κ nL (pc + 1) lv (.int (x - x / y * y) :: rest) L) : J g κ nL pc lv (.int y :: .int x :: rest) L := by
  obtain ⟨p, l, e, R, s, m, args, below, meth, c, cells, slots, Q, D, A⟩ := g
  obtain ⟨hx, hb, hml, hr, hlk, hown, hts, hK, hN, hi, hA1, hA2, hc, hs, hR⟩ := G
  intro H locs ls hP hS hl
  exact lv_irem hx hb hd hne (k H locs ls hP hS hl)
theorem w_ldiv {g : Gm} {κ : ctx} {own : String} {cc : ByteArray} {nL : Nat} {ret : Option FieldType} {rm : Room} (G : OK g κ own cc nL ret rm) {pc : Nat} {lv : List (Nat × Value)} {rest : List Value} {L : Nat → va_E} {x y : Int64} (hd : decode cc pc = .ok (.ldiv, 1)) (hne : ¬ y = 0) (k : J g κ nL (pc + 1) lv (.long (x / y) :: rest) L) : J g κ nL pc lv (.long y :: .long x :: rest) L := by
  obtain ⟨p, l, e, R, s, m, args, below, meth, c, cells, slots, Q, D, A⟩ := g
  obtain ⟨hx, hb, hml, hr, hlk, hown, hts, hK, hN, hi, hA1, hA2, hc, hs, hR⟩ := G
  intro H locs ls hP hS hl
  exact lv_ldiv hx hb hd hne (k H locs ls hP hS hl)
theorem w_lrem {g : Gm} {κ : ctx} {own : String} {cc : ByteArray} {nL : Nat} {ret : Option FieldType} {rm : Room} (G : OK g κ own cc nL ret rm) {pc : Nat} {lv : List (Nat × Value)} {rest : List Value} {L : Nat → va_E} {x y : Int64} (hd : decode cc pc = .ok (.lrem, 1)) (hne : ¬ y = 0) (k : J g κ nL (pc + 1) lv (.long (x - x / y * y) :: rest) L) : J g κ nL pc lv (.long y :: .long x :: rest) L := by
  obtain ⟨p, l, e, R, s, m, args, below, meth, c, cells, slots, Q, D, A⟩ := g
  obtain ⟨hx, hb, hml, hr, hlk, hown, hts, hK, hN, hi, hA1, hA2, hc, hs, hR⟩ := G
  intro H locs ls hP hS hl
  exact lv_lrem hx hb hd hne (k H locs ls hP hS hl)
theorem w_ineg {g : Gm} {κ : ctx} {own : String} {cc : ByteArray} {nL : Nat} {ret : Option FieldType} {rm : Room} (G : OK g κ own cc nL ret rm) {pc : Nat} {lv : List (Nat × Value)} {rest : List Value} {L : Nat → va_E} {x : Int32} (hd : decode cc pc = .ok (.ineg, 1)) (k : J g κ nL (pc + 1) lv (.int (-x) :: rest) L) : J g κ nL pc lv (.int x :: rest) L := by
  obtain ⟨p, l, e, R, s, m, args, below, meth, c, cells, slots, Q, D, A⟩ := g
  obtain ⟨hx, hb, hml, hr, hlk, hown, hts, hK, hN, hi, hA1, hA2, hc, hs, hR⟩ := G
  intro H locs ls hP hS hl
  exact lv_ineg hx hb hd (k H locs ls hP hS hl)
theorem w_lneg {g : Gm} {κ : ctx} {own : String} {cc : ByteArray} {nL : Nat} {ret : Option FieldType} {rm : Room} (G : OK g κ own cc nL ret rm) {pc : Nat} {lv : List (Nat × Value)} {rest : List Value} {L : Nat → va_E} {x : Int64} (hd : decode cc pc = .ok (.lneg, 1)) (k : J g κ nL (pc + 1) lv (.long (-x) :: rest) L) : J g κ nL pc lv (.long x :: rest) L := by
  obtain ⟨p, l, e, R, s, m, args, below, meth, c, cells, slots, Q, D, A⟩ := g
  obtain ⟨hx, hb, hml, hr, hlk, hown, hts, hK, hN, hi, hA1, hA2, hc, hs, hR⟩ := G
  intro H locs ls hP hS hl
  exact lv_lneg hx hb hd (k H locs ls hP hS hl)
theorem w_i2l {g : Gm} {κ : ctx} {own : String} {cc : ByteArray} {nL : Nat} {ret : Option FieldType} {rm : Room} (G : OK g κ own cc nL ret rm) {pc : Nat} {lv : List (Nat × Value)} {rest : List Value} {L : Nat → va_E} {x : Int32} (hd : decode cc pc = .ok (.i2l, 1)) (k : J g κ nL (pc + 1) lv (.long x.toInt64 :: rest) L) : J g κ nL pc lv (.int x :: rest) L := by
  obtain ⟨p, l, e, R, s, m, args, below, meth, c, cells, slots, Q, D, A⟩ := g
  obtain ⟨hx, hb, hml, hr, hlk, hown, hts, hK, hN, hi, hA1, hA2, hc, hs, hR⟩ := G
  intro H locs ls hP hS hl
  exact lv_i2l hx hb hd rfl (k H locs ls hP hS hl)
theorem w_l2i {g : Gm} {κ : ctx} {own : String} {cc : ByteArray} {nL : Nat} {ret : Option FieldType} {rm : Room} (G : OK g κ own cc nL ret rm) {pc : Nat} {lv : List (Nat × Value)} {rest : List Value} {L : Nat → va_E} {x : Int64} (hd : decode cc pc = .ok (.l2i, 1)) (k : J g κ nL (pc + 1) lv (.int x.toInt32 :: rest) L) : J g κ nL pc lv (.long x :: rest) L := by
  obtain ⟨p, l, e, R, s, m, args, below, meth, c, cells, slots, Q, D, A⟩ := g
  obtain ⟨hx, hb, hml, hr, hlk, hown, hts, hK, hN, hi, hA1, hA2, hc, hs, hR⟩ := G
  intro H locs ls hP hS hl
  exact lv_l2i hx hb hd rfl (k H locs ls hP hS hl)
theorem w_dup {g : Gm} {κ : ctx} {own : String} {cc : ByteArray} {nL : Nat} {ret : Option FieldType} {rm : Room} (G : OK g κ own cc nL ret rm) {pc : Nat} {lv : List (Nat × Value)} {rest : List Value} {L : Nat → va_E} {v : Value} (hd : decode cc pc = .ok (.dup, 1)) (hc1 : v.category = 1) (k : J g κ nL (pc + 1) lv (v :: v :: rest) L) : J g κ nL pc lv (v :: rest) L := by
  obtain ⟨p, l, e, R, s, m, args, below, meth, c, cells, slots, Q, D, A⟩ := g
  obtain ⟨hx, hb, hml, hr, hlk, hown, hts, hK, hN, hi, hA1, hA2, hc, hs, hR⟩ := G
  intro H locs ls hP hS hl
  exact lv_dup hx hb hd hc1 (k H locs ls hP hS hl)
theorem w_dup2_2 {g : Gm} {κ : ctx} {own : String} {cc : ByteArray} {nL : Nat} {ret : Option FieldType} {rm : Room} (G : OK g κ own cc nL ret rm) {pc : Nat} {lv : List (Nat × Value)} {rest : List Value} {L : Nat → va_E} {v : Value} (hd : decode cc pc = .ok (.dup2, 1)) (hc1 : v.category = 2) (k : J g κ nL (pc + 1) lv (v :: v :: rest) L) : J g κ nL pc lv (v :: rest) L := by
  obtain ⟨p, l, e, R, s, m, args, below, meth, c, cells, slots, Q, D, A⟩ := g
  obtain ⟨hx, hb, hml, hr, hlk, hown, hts, hK, hN, hi, hA1, hA2, hc, hs, hR⟩ := G
  intro H locs ls hP hS hl
  exact lv_dup2_2 hx hb hd hc1 (k H locs ls hP hS hl)
theorem w_dup2_11 {g : Gm} {κ : ctx} {own : String} {cc : ByteArray} {nL : Nat} {ret : Option FieldType} {rm : Room} (G : OK g κ own cc nL ret rm) {pc : Nat} {lv : List (Nat × Value)} {rest : List Value} {L : Nat → va_E} {v w : Value} (hd : decode cc pc = .ok (.dup2, 1)) (hc1 : v.category = 1) (hc2 : w.category = 1) (k : J g κ nL (pc + 1) lv (v :: w :: v :: w :: rest) L) : J g κ nL pc lv (v :: w :: rest) L := by
  obtain ⟨p, l, e, R, s, m, args, below, meth, c, cells, slots, Q, D, A⟩ := g
  obtain ⟨hx, hb, hml, hr, hlk, hown, hts, hK, hN, hi, hA1, hA2, hc, hs, hR⟩ := G
  intro H locs ls hP hS hl
  exact lv_dup2_11 hx hb hd hc1 hc2 (k H locs ls hP hS hl)
theorem w_goto {g : Gm} {κ : ctx} {own : String} {cc : ByteArray} {nL : Nat} {ret : Option FieldType} {rm : Room} (G : OK g κ own cc nL ret rm) {pc : Nat} {lv : List (Nat × Value)} {rest : List Value} {L : Nat → va_E} {off : Int} {tgt : Nat} (hd : decode cc pc = .ok (.goto off, 3)) (ht : (pc : Int) + off = (tgt : Int)) (k : J g κ nL tgt lv rest L) : J g κ nL pc lv rest L := by
  obtain ⟨p, l, e, R, s, m, args, below, meth, c, cells, slots, Q, D, A⟩ := g
  obtain ⟨hx, hb, hml, hr, hlk, hown, hts, hK, hN, hi, hA1, hA2, hc, hs, hR⟩ := G
  intro H locs ls hP hS hl
  exact lv_goto hx hb hd ht (k H locs ls hP hS hl)
theorem w_if_eq {g : Gm} {κ : ctx} {own : String} {cc : ByteArray} {nL : Nat} {ret : Option FieldType} {rm : Room} (G : OK g κ own cc nL ret rm) {pc : Nat} {lv : List (Nat × Value)} {rest : List Value} {L : Nat → va_E} {x : Int32} {off : Int} {tgt : Nat} (hd : decode cc pc = .ok (.ifCond .eq off, 3)) (ht : (pc : Int) + off = (tgt : Int)) (kt : x = 0 → J g κ nL tgt lv rest L) (kf : ¬ (x = 0) → J g κ nL (pc + 3) lv rest L) : J g κ nL pc lv (.int x :: rest) L := by
  obtain ⟨p, l, e, R, s, m, args, below, meth, c, cells, slots, Q, D, A⟩ := g
  obtain ⟨hx, hb, hml, hr, hlk, hown, hts, hK, hN, hi, hA1, hA2, hc, hs, hR⟩ := G
  intro H locs ls hP hS hl
  exact lv_if_eq hx hb hd ht (fun q => kt q H locs ls hP hS hl) (fun q => kf q H locs ls hP hS hl)
theorem w_if_lt {g : Gm} {κ : ctx} {own : String} {cc : ByteArray} {nL : Nat} {ret : Option FieldType} {rm : Room} (G : OK g κ own cc nL ret rm) {pc : Nat} {lv : List (Nat × Value)} {rest : List Value} {L : Nat → va_E} {x : Int32} {off : Int} {tgt : Nat} (hd : decode cc pc = .ok (.ifCond .lt off, 3)) (ht : (pc : Int) + off = (tgt : Int)) (kt : x < 0 → J g κ nL tgt lv rest L) (kf : ¬ (x < 0) → J g κ nL (pc + 3) lv rest L) : J g κ nL pc lv (.int x :: rest) L := by
  obtain ⟨p, l, e, R, s, m, args, below, meth, c, cells, slots, Q, D, A⟩ := g
  obtain ⟨hx, hb, hml, hr, hlk, hown, hts, hK, hN, hi, hA1, hA2, hc, hs, hR⟩ := G
  intro H locs ls hP hS hl
  exact lv_if_lt hx hb hd ht (fun q => kt q H locs ls hP hS hl) (fun q => kf q H locs ls hP hS hl)
theorem w_if_ge {g : Gm} {κ : ctx} {own : String} {cc : ByteArray} {nL : Nat} {ret : Option FieldType} {rm : Room} (G : OK g κ own cc nL ret rm) {pc : Nat} {lv : List (Nat × Value)} {rest : List Value} {L : Nat → va_E} {x : Int32} {off : Int} {tgt : Nat} (hd : decode cc pc = .ok (.ifCond .ge off, 3)) (ht : (pc : Int) + off = (tgt : Int)) (kt : 0 ≤ x → J g κ nL tgt lv rest L) (kf : ¬ (0 ≤ x) → J g κ nL (pc + 3) lv rest L) : J g κ nL pc lv (.int x :: rest) L := by
  obtain ⟨p, l, e, R, s, m, args, below, meth, c, cells, slots, Q, D, A⟩ := g
  obtain ⟨hx, hb, hml, hr, hlk, hown, hts, hK, hN, hi, hA1, hA2, hc, hs, hR⟩ := G
  intro H locs ls hP hS hl
  exact lv_if_ge hx hb hd ht (fun q => kt q H locs ls hP hS hl) (fun q => kf q H locs ls hP hS hl)
theorem w_if_gt {g : Gm} {κ : ctx} {own : String} {cc : ByteArray} {nL : Nat} {ret : Option FieldType} {rm : Room} (G : OK g κ own cc nL ret rm) {pc : Nat} {lv : List (Nat × Value)} {rest : List Value} {L : Nat → va_E} {x : Int32} {off : Int} {tgt : Nat} (hd : decode cc pc = .ok (.ifCond .gt off, 3)) (ht : (pc : Int) + off = (tgt : Int)) (kt : 0 < x → J g κ nL tgt lv rest L) (kf : ¬ (0 < x) → J g κ nL (pc + 3) lv rest L) : J g κ nL pc lv (.int x :: rest) L := by
  obtain ⟨p, l, e, R, s, m, args, below, meth, c, cells, slots, Q, D, A⟩ := g
  obtain ⟨hx, hb, hml, hr, hlk, hown, hts, hK, hN, hi, hA1, hA2, hc, hs, hR⟩ := G
  intro H locs ls hP hS hl
  exact lv_if_gt hx hb hd ht (fun q => kt q H locs ls hP hS hl) (fun q => kf q H locs ls hP hS hl)
theorem w_if_le {g : Gm} {κ : ctx} {own : String} {cc : ByteArray} {nL : Nat} {ret : Option FieldType} {rm : Room} (G : OK g κ own cc nL ret rm) {pc : Nat} {lv : List (Nat × Value)} {rest : List Value} {L : Nat → va_E} {x : Int32} {off : Int} {tgt : Nat} (hd : decode cc pc = .ok (.ifCond .le off, 3)) (ht : (pc : Int) + off = (tgt : Int)) (kt : x ≤ 0 → J g κ nL tgt lv rest L) (kf : ¬ (x ≤ 0) → J g κ nL (pc + 3) lv rest L) : J g κ nL pc lv (.int x :: rest) L := by
  obtain ⟨p, l, e, R, s, m, args, below, meth, c, cells, slots, Q, D, A⟩ := g
  obtain ⟨hx, hb, hml, hr, hlk, hown, hts, hK, hN, hi, hA1, hA2, hc, hs, hR⟩ := G
  intro H locs ls hP hS hl
  exact lv_if_le hx hb hd ht (fun q => kt q H locs ls hP hS hl) (fun q => kf q H locs ls hP hS hl)
theorem w_if_ne {g : Gm} {κ : ctx} {own : String} {cc : ByteArray} {nL : Nat} {ret : Option FieldType} {rm : Room} (G : OK g κ own cc nL ret rm) {pc : Nat} {lv : List (Nat × Value)} {rest : List Value} {L : Nat → va_E} {x : Int32} {off : Int} {tgt : Nat} (hd : decode cc pc = .ok (.ifCond .ne off, 3)) (ht : (pc : Int) + off = (tgt : Int)) (kt : x = 0 → J g κ nL (pc + 3) lv rest L) (kf : ¬ (x = 0) → J g κ nL tgt lv rest L) : J g κ nL pc lv (.int x :: rest) L := by
  obtain ⟨p, l, e, R, s, m, args, below, meth, c, cells, slots, Q, D, A⟩ := g
  obtain ⟨hx, hb, hml, hr, hlk, hown, hts, hK, hN, hi, hA1, hA2, hc, hs, hR⟩ := G
  intro H locs ls hP hS hl
  exact lv_if_ne hx hb hd ht (fun q => kf q H locs ls hP hS hl) (fun q => kt q H locs ls hP hS hl)
theorem w_icmp_eq {g : Gm} {κ : ctx} {own : String} {cc : ByteArray} {nL : Nat} {ret : Option FieldType} {rm : Room} (G : OK g κ own cc nL ret rm) {pc : Nat} {lv : List (Nat × Value)} {rest : List Value} {L : Nat → va_E} {x y : Int32} {off : Int} {tgt : Nat} (hd : decode cc pc = .ok (.if_icmp .eq off, 3)) (ht : (pc : Int) + off = (tgt : Int)) (kt : x = y → J g κ nL tgt lv rest L) (kf : ¬ (x = y) → J g κ nL (pc + 3) lv rest L) : J g κ nL pc lv (.int y :: .int x :: rest) L := by
  obtain ⟨p, l, e, R, s, m, args, below, meth, c, cells, slots, Q, D, A⟩ := g
  obtain ⟨hx, hb, hml, hr, hlk, hown, hts, hK, hN, hi, hA1, hA2, hc, hs, hR⟩ := G
  intro H locs ls hP hS hl
  exact lv_icmp_eq hx hb hd ht (fun q => kt q H locs ls hP hS hl) (fun q => kf q H locs ls hP hS hl)
theorem w_icmp_lt {g : Gm} {κ : ctx} {own : String} {cc : ByteArray} {nL : Nat} {ret : Option FieldType} {rm : Room} (G : OK g κ own cc nL ret rm) {pc : Nat} {lv : List (Nat × Value)} {rest : List Value} {L : Nat → va_E} {x y : Int32} {off : Int} {tgt : Nat} (hd : decode cc pc = .ok (.if_icmp .lt off, 3)) (ht : (pc : Int) + off = (tgt : Int)) (kt : x < y → J g κ nL tgt lv rest L) (kf : ¬ (x < y) → J g κ nL (pc + 3) lv rest L) : J g κ nL pc lv (.int y :: .int x :: rest) L := by
  obtain ⟨p, l, e, R, s, m, args, below, meth, c, cells, slots, Q, D, A⟩ := g
  obtain ⟨hx, hb, hml, hr, hlk, hown, hts, hK, hN, hi, hA1, hA2, hc, hs, hR⟩ := G
  intro H locs ls hP hS hl
  exact lv_icmp_lt hx hb hd ht (fun q => kt q H locs ls hP hS hl) (fun q => kf q H locs ls hP hS hl)
theorem w_icmp_ge {g : Gm} {κ : ctx} {own : String} {cc : ByteArray} {nL : Nat} {ret : Option FieldType} {rm : Room} (G : OK g κ own cc nL ret rm) {pc : Nat} {lv : List (Nat × Value)} {rest : List Value} {L : Nat → va_E} {x y : Int32} {off : Int} {tgt : Nat} (hd : decode cc pc = .ok (.if_icmp .ge off, 3)) (ht : (pc : Int) + off = (tgt : Int)) (kt : y ≤ x → J g κ nL tgt lv rest L) (kf : ¬ (y ≤ x) → J g κ nL (pc + 3) lv rest L) : J g κ nL pc lv (.int y :: .int x :: rest) L := by
  obtain ⟨p, l, e, R, s, m, args, below, meth, c, cells, slots, Q, D, A⟩ := g
  obtain ⟨hx, hb, hml, hr, hlk, hown, hts, hK, hN, hi, hA1, hA2, hc, hs, hR⟩ := G
  intro H locs ls hP hS hl
  exact lv_icmp_ge hx hb hd ht (fun q => kt q H locs ls hP hS hl) (fun q => kf q H locs ls hP hS hl)
theorem w_icmp_gt {g : Gm} {κ : ctx} {own : String} {cc : ByteArray} {nL : Nat} {ret : Option FieldType} {rm : Room} (G : OK g κ own cc nL ret rm) {pc : Nat} {lv : List (Nat × Value)} {rest : List Value} {L : Nat → va_E} {x y : Int32} {off : Int} {tgt : Nat} (hd : decode cc pc = .ok (.if_icmp .gt off, 3)) (ht : (pc : Int) + off = (tgt : Int)) (kt : y < x → J g κ nL tgt lv rest L) (kf : ¬ (y < x) → J g κ nL (pc + 3) lv rest L) : J g κ nL pc lv (.int y :: .int x :: rest) L := by
  obtain ⟨p, l, e, R, s, m, args, below, meth, c, cells, slots, Q, D, A⟩ := g
  obtain ⟨hx, hb, hml, hr, hlk, hown, hts, hK, hN, hi, hA1, hA2, hc, hs, hR⟩ := G
  intro H locs ls hP hS hl
  exact lv_icmp_gt hx hb hd ht (fun q => kt q H locs ls hP hS hl) (fun q => kf q H locs ls hP hS hl)
theorem w_icmp_le {g : Gm} {κ : ctx} {own : String} {cc : ByteArray} {nL : Nat} {ret : Option FieldType} {rm : Room} (G : OK g κ own cc nL ret rm) {pc : Nat} {lv : List (Nat × Value)} {rest : List Value} {L : Nat → va_E} {x y : Int32} {off : Int} {tgt : Nat} (hd : decode cc pc = .ok (.if_icmp .le off, 3)) (ht : (pc : Int) + off = (tgt : Int)) (kt : x ≤ y → J g κ nL tgt lv rest L) (kf : ¬ (x ≤ y) → J g κ nL (pc + 3) lv rest L) : J g κ nL pc lv (.int y :: .int x :: rest) L := by
  obtain ⟨p, l, e, R, s, m, args, below, meth, c, cells, slots, Q, D, A⟩ := g
  obtain ⟨hx, hb, hml, hr, hlk, hown, hts, hK, hN, hi, hA1, hA2, hc, hs, hR⟩ := G
  intro H locs ls hP hS hl
  exact lv_icmp_le hx hb hd ht (fun q => kt q H locs ls hP hS hl) (fun q => kf q H locs ls hP hS hl)
theorem w_icmp_ne {g : Gm} {κ : ctx} {own : String} {cc : ByteArray} {nL : Nat} {ret : Option FieldType} {rm : Room} (G : OK g κ own cc nL ret rm) {pc : Nat} {lv : List (Nat × Value)} {rest : List Value} {L : Nat → va_E} {x y : Int32} {off : Int} {tgt : Nat} (hd : decode cc pc = .ok (.if_icmp .ne off, 3)) (ht : (pc : Int) + off = (tgt : Int)) (kt : x = y → J g κ nL (pc + 3) lv rest L) (kf : ¬ (x = y) → J g κ nL tgt lv rest L) : J g κ nL pc lv (.int y :: .int x :: rest) L := by
  obtain ⟨p, l, e, R, s, m, args, below, meth, c, cells, slots, Q, D, A⟩ := g
  obtain ⟨hx, hb, hml, hr, hlk, hown, hts, hK, hN, hi, hA1, hA2, hc, hs, hR⟩ := G
  intro H locs ls hP hS hl
  exact lv_icmp_ne hx hb hd ht (fun q => kf q H locs ls hP hS hl) (fun q => kt q H locs ls hP hS hl)
theorem w_lc_eq {g : Gm} {κ : ctx} {own : String} {cc : ByteArray} {nL : Nat} {ret : Option FieldType} {rm : Room} (G : OK g κ own cc nL ret rm) {pc : Nat} {lv : List (Nat × Value)} {rest : List Value} {L : Nat → va_E} {x y : Int64} {off : Int} {tgt : Nat} (hd : decode cc pc = .ok (.lcmp, 1)) (hd2 : decode cc (pc + 1) = .ok (.ifCond .eq off, 3)) (ht : ((pc + 1 : Nat) : Int) + off = (tgt : Int)) (kt : x = y → J g κ nL tgt lv rest L) (kf : ¬ (x = y) → J g κ nL (pc + 4) lv rest L) : J g κ nL pc lv (.long y :: .long x :: rest) L := by
  obtain ⟨p, l, e, R, s, m, args, below, meth, c, cells, slots, Q, D, A⟩ := g
  obtain ⟨hx, hb, hml, hr, hlk, hown, hts, hK, hN, hi, hA1, hA2, hc, hs, hR⟩ := G
  intro H locs ls hP hS hl
  refine W.lcmp hx hb hd ?_
  exact lv_if_eq hx hb hd2 ht (fun q => kt ((lg_cmp_eq x y).mp q) H locs ls hP hS hl) (fun q => kf (fun z => q ((lg_cmp_eq x y).mpr z)) H locs ls hP hS hl)
theorem w_lc_lt {g : Gm} {κ : ctx} {own : String} {cc : ByteArray} {nL : Nat} {ret : Option FieldType} {rm : Room} (G : OK g κ own cc nL ret rm) {pc : Nat} {lv : List (Nat × Value)} {rest : List Value} {L : Nat → va_E} {x y : Int64} {off : Int} {tgt : Nat} (hd : decode cc pc = .ok (.lcmp, 1)) (hd2 : decode cc (pc + 1) = .ok (.ifCond .lt off, 3)) (ht : ((pc + 1 : Nat) : Int) + off = (tgt : Int)) (kt : x < y → J g κ nL tgt lv rest L) (kf : ¬ (x < y) → J g κ nL (pc + 4) lv rest L) : J g κ nL pc lv (.long y :: .long x :: rest) L := by
  obtain ⟨p, l, e, R, s, m, args, below, meth, c, cells, slots, Q, D, A⟩ := g
  obtain ⟨hx, hb, hml, hr, hlk, hown, hts, hK, hN, hi, hA1, hA2, hc, hs, hR⟩ := G
  intro H locs ls hP hS hl
  refine W.lcmp hx hb hd ?_
  exact lv_if_lt hx hb hd2 ht (fun q => kt ((lg_cmp_lt x y).mp q) H locs ls hP hS hl) (fun q => kf (fun z => q ((lg_cmp_lt x y).mpr z)) H locs ls hP hS hl)
theorem w_lc_ge {g : Gm} {κ : ctx} {own : String} {cc : ByteArray} {nL : Nat} {ret : Option FieldType} {rm : Room} (G : OK g κ own cc nL ret rm) {pc : Nat} {lv : List (Nat × Value)} {rest : List Value} {L : Nat → va_E} {x y : Int64} {off : Int} {tgt : Nat} (hd : decode cc pc = .ok (.lcmp, 1)) (hd2 : decode cc (pc + 1) = .ok (.ifCond .ge off, 3)) (ht : ((pc + 1 : Nat) : Int) + off = (tgt : Int)) (kt : y ≤ x → J g κ nL tgt lv rest L) (kf : ¬ (y ≤ x) → J g κ nL (pc + 4) lv rest L) : J g κ nL pc lv (.long y :: .long x :: rest) L := by
  obtain ⟨p, l, e, R, s, m, args, below, meth, c, cells, slots, Q, D, A⟩ := g
  obtain ⟨hx, hb, hml, hr, hlk, hown, hts, hK, hN, hi, hA1, hA2, hc, hs, hR⟩ := G
  intro H locs ls hP hS hl
  refine W.lcmp hx hb hd ?_
  exact lv_if_ge hx hb hd2 ht (fun q => kt ((lg_cmp_ge x y).mp q) H locs ls hP hS hl) (fun q => kf (fun z => q ((lg_cmp_ge x y).mpr z)) H locs ls hP hS hl)
theorem w_lc_gt {g : Gm} {κ : ctx} {own : String} {cc : ByteArray} {nL : Nat} {ret : Option FieldType} {rm : Room} (G : OK g κ own cc nL ret rm) {pc : Nat} {lv : List (Nat × Value)} {rest : List Value} {L : Nat → va_E} {x y : Int64} {off : Int} {tgt : Nat} (hd : decode cc pc = .ok (.lcmp, 1)) (hd2 : decode cc (pc + 1) = .ok (.ifCond .gt off, 3)) (ht : ((pc + 1 : Nat) : Int) + off = (tgt : Int)) (kt : y < x → J g κ nL tgt lv rest L) (kf : ¬ (y < x) → J g κ nL (pc + 4) lv rest L) : J g κ nL pc lv (.long y :: .long x :: rest) L := by
  obtain ⟨p, l, e, R, s, m, args, below, meth, c, cells, slots, Q, D, A⟩ := g
  obtain ⟨hx, hb, hml, hr, hlk, hown, hts, hK, hN, hi, hA1, hA2, hc, hs, hR⟩ := G
  intro H locs ls hP hS hl
  refine W.lcmp hx hb hd ?_
  exact lv_if_gt hx hb hd2 ht (fun q => kt ((lg_cmp_gt x y).mp q) H locs ls hP hS hl) (fun q => kf (fun z => q ((lg_cmp_gt x y).mpr z)) H locs ls hP hS hl)
theorem w_lc_le {g : Gm} {κ : ctx} {own : String} {cc : ByteArray} {nL : Nat} {ret : Option FieldType} {rm : Room} (G : OK g κ own cc nL ret rm) {pc : Nat} {lv : List (Nat × Value)} {rest : List Value} {L : Nat → va_E} {x y : Int64} {off : Int} {tgt : Nat} (hd : decode cc pc = .ok (.lcmp, 1)) (hd2 : decode cc (pc + 1) = .ok (.ifCond .le off, 3)) (ht : ((pc + 1 : Nat) : Int) + off = (tgt : Int)) (kt : x ≤ y → J g κ nL tgt lv rest L) (kf : ¬ (x ≤ y) → J g κ nL (pc + 4) lv rest L) : J g κ nL pc lv (.long y :: .long x :: rest) L := by
  obtain ⟨p, l, e, R, s, m, args, below, meth, c, cells, slots, Q, D, A⟩ := g
  obtain ⟨hx, hb, hml, hr, hlk, hown, hts, hK, hN, hi, hA1, hA2, hc, hs, hR⟩ := G
  intro H locs ls hP hS hl
  refine W.lcmp hx hb hd ?_
  exact lv_if_le hx hb hd2 ht (fun q => kt ((lg_cmp_le x y).mp q) H locs ls hP hS hl) (fun q => kf (fun z => q ((lg_cmp_le x y).mpr z)) H locs ls hP hS hl)
theorem w_lc_ne {g : Gm} {κ : ctx} {own : String} {cc : ByteArray} {nL : Nat} {ret : Option FieldType} {rm : Room} (G : OK g κ own cc nL ret rm) {pc : Nat} {lv : List (Nat × Value)} {rest : List Value} {L : Nat → va_E} {x y : Int64} {off : Int} {tgt : Nat} (hd : decode cc pc = .ok (.lcmp, 1)) (hd2 : decode cc (pc + 1) = .ok (.ifCond .ne off, 3)) (ht : ((pc + 1 : Nat) : Int) + off = (tgt : Int)) (kt : x = y → J g κ nL (pc + 4) lv rest L) (kf : ¬ (x = y) → J g κ nL tgt lv rest L) : J g κ nL pc lv (.long y :: .long x :: rest) L := by
  obtain ⟨p, l, e, R, s, m, args, below, meth, c, cells, slots, Q, D, A⟩ := g
  obtain ⟨hx, hb, hml, hr, hlk, hown, hts, hK, hN, hi, hA1, hA2, hc, hs, hR⟩ := G
  intro H locs ls hP hS hl
  refine W.lcmp hx hb hd ?_
  exact lv_if_ne hx hb hd2 ht (fun q => kf (fun z => q ((lg_cmp_eq x y).mpr z)) H locs ls hP hS hl) (fun q => kt ((lg_cmp_eq x y).mp q) H locs ls hP hS hl)
theorem w_ldc {g : Gm} {κ : ctx} {own : String} {cc : ByteArray} {nL : Nat} {ret : Option FieldType} {rm : Room} (G : OK g κ own cc nL ret rm) {pc : Nat} {lv : List (Nat × Value)} {rest : List Value} {L : Nat → va_E} {index : Nat} {v : Int32} (hw : Cond.constant own index v ∈ utbl) (hd : decode cc pc = .ok (.ldc index, 2)) (k : J g κ nL (pc + 2) lv (.int v :: rest) L) : J g κ nL pc lv (rest) L := by
  obtain ⟨p, l, e, R, s, m, args, below, meth, c, cells, slots, Q, D, A⟩ := g
  obtain ⟨hx, hb, hml, hr, hlk, hown, hts, hK, hN, hi, hA1, hA2, hc, hs, hR⟩ := G
  intro H locs ls hP hS hl
  exact lv_ldc hx hb hown (hts _ hw) hd (k H locs ls hP hS hl)
theorem w_ldc2 {g : Gm} {κ : ctx} {own : String} {cc : ByteArray} {nL : Nat} {ret : Option FieldType} {rm : Room} (G : OK g κ own cc nL ret rm) {pc : Nat} {lv : List (Nat × Value)} {rest : List Value} {L : Nat → va_E} {index : Nat} {v : Int64} (hw : Cond.constantLong own index v ∈ utbl) (hd : decode cc pc = .ok (.ldc2_w index, 3)) (k : J g κ nL (pc + 3) lv (.long v :: rest) L) : J g κ nL pc lv (rest) L := by
  obtain ⟨p, l, e, R, s, m, args, below, meth, c, cells, slots, Q, D, A⟩ := g
  obtain ⟨hx, hb, hml, hr, hlk, hown, hts, hK, hN, hi, hA1, hA2, hc, hs, hR⟩ := G
  intro H locs ls hP hS hl
  exact lv_ldc2 hx hb hown (hts _ hw) hd (k H locs ls hP hS hl)
theorem w_iald {g : Gm} {κ : ctx} {own : String} {cc : ByteArray} {nL : Nat} {ret : Option FieldType} {rm : Room} (G : OK g κ own cc nL ret rm) {pc : Nat} {lv : List (Nat × Value)} {rest : List Value} {L : Nat → va_E} (q : Nat) (hq : q < NW) {n : Nat} {f : Nat → Int32} (he : L q = .inl (κ.2.1, n, .inl f)) {i : Int32} (hin : vp_in i n) (hd : decode cc pc = .ok (.iaload, 1)) (k : J g κ nL (pc + 1) lv (.int (f i.toNatClampNeg) :: rest) L) : J g κ nL pc lv (.int i :: .ref (κ.1 q) :: rest) L := by
  obtain ⟨p, l, e, R, s, m, args, below, meth, c, cells, slots, Q, D, A⟩ := g
  obtain ⟨hx, hb, hml, hr, hlk, hown, hts, hK, hN, hi, hA1, hA2, hc, hs, hR⟩ := G
  intro H locs ls hP hS hl
  exact va_iald hx hb hK hP q 0 (by rw [wl_get hq, he]) rfl hin hd (k H locs ls hP hS hl)
theorem w_lald {g : Gm} {κ : ctx} {own : String} {cc : ByteArray} {nL : Nat} {ret : Option FieldType} {rm : Room} (G : OK g κ own cc nL ret rm) {pc : Nat} {lv : List (Nat × Value)} {rest : List Value} {L : Nat → va_E} (q : Nat) (hq : q < NW) {n : Nat} {f : Nat → Int64} (he : L q = .inl (κ.2.2.1, n, .inr (.inl f))) {i : Int32} (hin : vp_in i n) (hd : decode cc pc = .ok (.laload, 1)) (k : J g κ nL (pc + 1) lv (.long (f i.toNatClampNeg) :: rest) L) : J g κ nL pc lv (.int i :: .ref (κ.1 q) :: rest) L := by
  obtain ⟨p, l, e, R, s, m, args, below, meth, c, cells, slots, Q, D, A⟩ := g
  obtain ⟨hx, hb, hml, hr, hlk, hown, hts, hK, hN, hi, hA1, hA2, hc, hs, hR⟩ := G
  intro H locs ls hP hS hl
  exact va_lald hx hb hK hP q 1 (by rw [wl_get hq, he]) rfl hin hd (k H locs ls hP hS hl)
theorem w_iast {g : Gm} {κ : ctx} {own : String} {cc : ByteArray} {nL : Nat} {ret : Option FieldType} {rm : Room} (G : OK g κ own cc nL ret rm) {pc : Nat} {lv : List (Nat × Value)} {rest : List Value} {L : Nat → va_E} (q : Nat) (hq : q < NW) {n : Nat} {f : Nat → Int32} (he : L q = .inl (κ.2.1, n, .inl f)) {i x : Int32} (hin : vp_in i n) (hd : decode cc pc = .ok (.iastore, 1)) {L1 : Nat → va_E} (hL : va_up L q (.inl (κ.2.1, n, .inl (upd f i.toNatClampNeg x))) = L1) (k : J g κ nL (pc + 1) lv rest L1) : J g κ nL pc lv (.int x :: .int i :: .ref (κ.1 q) :: rest) L := by
  obtain ⟨p, l, e, R, s, m, args, below, meth, c, cells, slots, Q, D, A⟩ := g
  obtain ⟨hx, hb, hml, hr, hlk, hown, hts, hK, hN, hi, hA1, hA2, hc, hs, hR⟩ := G
  intro H locs ls hP hS hl
  refine va_iast hx hb hK hP (wl_D hi hA1) hS q 0 (by rw [wl_get hq, he]) rfl hin hd (fun H1 locs1 hP1 _ hS1 => ?_)
  rw [wl_set, hL] at hP1
  exact k H1 locs1 ls hP1 hS1 hl
theorem w_last {g : Gm} {κ : ctx} {own : String} {cc : ByteArray} {nL : Nat} {ret : Option FieldType} {rm : Room} (G : OK g κ own cc nL ret rm) {pc : Nat} {lv : List (Nat × Value)} {rest : List Value} {L : Nat → va_E} (q : Nat) (hq : q < NW) {n : Nat} {f : Nat → Int64} (he : L q = .inl (κ.2.2.1, n, .inr (.inl f))) {i : Int32} {x : Int64} (hin : vp_in i n) (hd : decode cc pc = .ok (.lastore, 1)) {L1 : Nat → va_E} (hL : va_up L q (.inl (κ.2.2.1, n, .inr (.inl (vp_updL f i.toNatClampNeg x)))) = L1) (k : J g κ nL (pc + 1) lv rest L1) : J g κ nL pc lv (.long x :: .int i :: .ref (κ.1 q) :: rest) L := by
  obtain ⟨p, l, e, R, s, m, args, below, meth, c, cells, slots, Q, D, A⟩ := g
  obtain ⟨hx, hb, hml, hr, hlk, hown, hts, hK, hN, hi, hA1, hA2, hc, hs, hR⟩ := G
  intro H locs ls hP hS hl
  refine va_last hx hb hK hP (wl_D hi hA1) hS q 1 (by rw [wl_get hq, he]) rfl hin hd (fun H1 locs1 hP1 _ hS1 => ?_)
  rw [wl_set, hL] at hP1
  exact k H1 locs1 ls hP1 hS1 hl
theorem w_aald {g : Gm} {κ : ctx} {own : String} {cc : ByteArray} {nL : Nat} {ret : Option FieldType} {rm : Room} (G : OK g κ own cc nL ret rm) {pc : Nat} {lv : List (Nat × Value)} {rest : List Value} {L : Nat → va_E} (q : Nat) (hq : q < NW) {n : Nat} {f : Nat → Option Nat} (he : L q = .inl (κ.2.2.2, n, .inr (.inr (.inr (.inr f))))) {i : Int32} {b : Nat} (hin : vp_in i n) (hf : f i.toNatClampNeg = some b) (hd : decode cc pc = .ok (.aaload, 1)) (k : J g κ nL (pc + 1) lv (.ref b :: rest) L) : J g κ nL pc lv (.int i :: .ref (κ.1 q) :: rest) L := by
  obtain ⟨p, l, e, R, s, m, args, below, meth, c, cells, slots, Q, D, A⟩ := g
  obtain ⟨hx, hb, hml, hr, hlk, hown, hts, hK, hN, hi, hA1, hA2, hc, hs, hR⟩ := G
  intro H locs ls hP hS hl
  have hlt : i.toNatClampNeg < n := Nat.not_le.mp fun z => hin (Or.inr z)
  have ha : (wl κ.1 L)[q]? = some (κ.1 q, .inl (κ.2.2.2, n, .inr (.inr (.inr (.inr f))))) := by rw [wl_get hq, he]
  have hcell := hP q _ ha
  refine W.aald (v := .ref b) (ty := .array .long) hx hb hcell ((hK.2 2 _ rfl).1 n (fun j => va_rf (f j))) rfl (fun z => by cases z) (by show ¬ (i < 0 ∨ (arrV _ _ _).slots.size ≤ _); rw [arrV_size]; exact hin) (by show (arrV _ _ _).slots[_]? = _; rw [arrV_read _ _ hlt, hf]; rfl) rfl rfl hd (k H locs ls hP hS hl)
theorem w_alen {g : Gm} {κ : ctx} {own : String} {cc : ByteArray} {nL : Nat} {ret : Option FieldType} {rm : Room} (G : OK g κ own cc nL ret rm) {pc : Nat} {lv : List (Nat × Value)} {rest : List Value} {L : Nat → va_E} (q : Nat) (hq : q < NW) {n : Nat} {f : (Nat → Int32) ⊕ (Nat → Int64) ⊕ (Nat → UInt32) ⊕ (Nat → UInt64) ⊕ (Nat → Option Nat)} (t : Nat) {ca : ClassId} {ty : FieldType} (he : L q = .inl (ca, n, f)) (ht : (tysOf κ)[t]? = some (ca, ty)) {v : Int32} (hv : Int32.ofNat n = v) (hd : decode cc pc = .ok (.arraylength, 1)) (k : J g κ nL (pc + 1) lv (.int v :: rest) L) : J g κ nL pc lv (.ref (κ.1 q) :: rest) L := by
  obtain ⟨p, l, e, R, s, m, args, below, meth, c, cells, slots, Q, D, A⟩ := g
  obtain ⟨hx, hb, hml, hr, hlk, hown, hts, hK, hN, hi, hA1, hA2, hc, hs, hR⟩ := G
  intro H locs ls hP hS hl
  exact va_alen hx hb hK hP q t (x := (n, f)) (by rw [wl_get hq, he]) ht hv hd (k H locs ls hP hS hl)
theorem w_get {g : Gm} {κ : ctx} {own : String} {cc : ByteArray} {nL : Nat} {ret : Option FieldType} {rm : Room} (G : OK g κ own cc nL ret rm) {pc : Nat} {lv : List (Nat × Value)} {rest : List Value} {L : Nat → va_E} (q : Nat) (hq : q < NW) {ci N index : Nat} {fs : List Value} {C : String} {T : u_T} (he : L q = .inr (ci, fs)) (hc1 : classes[ci]? = some (C, T, N)) (hw : ∀ w ∈ u_ws C T N, w ∈ utbl) (j : Nat) (hj : j < N) (hlk2 : Cond.fieldLink own index (T j).1 (T j).2.1 (T j).2.2.1 ∈ utbl) {v : Value} (hv : fs[j]? = some v) (hd : decode cc pc = .ok (.getfield index, 3)) (k : J g κ nL (pc + 3) lv (v :: rest) L) : J g κ nL pc lv (.ref (κ.1 q) :: rest) L := by
  obtain ⟨p, l, e, R, s, m, args, below, meth, c, cells, slots, Q, D, A⟩ := g
  obtain ⟨hx, hb, hml, hr, hlk, hown, hts, hK, hN, hi, hA1, hA2, hc, hs, hR⟩ := G
  intro H locs ls hP hS hl
  exact va_get hx hb hts hw hown hK hP q (by rw [wl_get hq, he]) hc1 j hj (hts _ hlk2) (fun _ z => z) hv hd (k H locs ls hP hS hl)
theorem w_put {g : Gm} {κ : ctx} {own : String} {cc : ByteArray} {nL : Nat} {ret : Option FieldType} {rm : Room} (G : OK g κ own cc nL ret rm) {pc : Nat} {lv : List (Nat × Value)} {rest : List Value} {L : Nat → va_E} (q : Nat) (hq : q < NW) {ci N index : Nat} {fs : List Value} {C : String} {T : u_T} (he : L q = .inr (ci, fs)) (hc1 : classes[ci]? = some (C, T, N)) (hw : ∀ w ∈ u_ws C T N, w ∈ utbl) (ty0 : Nat → FieldType) (hty : ∀ k, k < N → parseFieldDescriptor (T k).2.2.1 = some (ty0 k)) (hnm : ∀ a, a < N → ∀ b, b < N → a ≠ b → (T a).2.1 ≠ (T b).2.1) (j : Nat) (hj : j < N) (hlk2 : Cond.fieldLink own index (T j).1 (T j).2.1 (T j).2.2.1 ∈ utbl) (hfin : (T j).2.2.2 = false) {v : Value} (hn : narrow (ty0 j) v = v) (hfit : fits (ty0 j) v = true) (hl0 : j < fs.length) (hd : decode cc pc = .ok (.putfield index, 3)) {L1 : Nat → va_E} (hL : va_up L q (.inr (ci, fs.set j v)) = L1) (k : J g κ nL (pc + 3) lv rest L1) : J g κ nL pc lv (v :: .ref (κ.1 q) :: rest) L := by
  obtain ⟨p, l, e, R, s, m, args, below, meth, c, cells, slots, Q, D, A⟩ := g
  obtain ⟨hx, hb, hml, hr, hlk, hown, hts, hK, hN, hi, hA1, hA2, hc, hs, hR⟩ := G
  intro H locs ls hP hS hl
  refine va_put hx hb hts hw ty0 hty hnm hown hK hP (wl_D hi hA1) hS q (by rw [wl_get hq, he]) hc1 j hj (hts _ hlk2) (fun _ z => z) hfin (hty j hj) hn hfit hl0 hd (fun H1 locs1 hP1 _ hS1 => ?_)
  rw [wl_set, hL] at hP1
  exact k H1 locs1 ls hP1 hS1 hl
theorem w_iret {g : Gm} {κ : ctx} {own : String} {cc : ByteArray} {nL : Nat}  {rm : Room} (G : OK g κ own cc nL (some .int) rm) {pc : Nat} {lv : List (Nat × Value)} {L : Nat → va_E} {v : Int32} (hd : decode cc pc = .ok (.ireturn, 1)) (F : Fn g κ (some (.int v)) L) : J g κ nL pc lv [.int v] L := by
  obtain ⟨p, l, e, R, s, m, args, below, meth, c, cells, slots, Q, D, A⟩ := g
  obtain ⟨hx, hb, hml, hr, hlk, hown, hts, hK, hN, hi, hA1, hA2, hc, hs, hR⟩ := G
  intro H locs ls hP hS hl
  have F : Q = _ := F
  subst F
  exact W.iret hx hb hr (fun t ht hW => ⟨⟨rfl, by rw [ht]; exact hP⟩, hS.F ht⟩) hS.2.2 hd
theorem w_lret {g : Gm} {κ : ctx} {own : String} {cc : ByteArray} {nL : Nat}  {rm : Room} (G : OK g κ own cc nL (some .long) rm) {pc : Nat} {lv : List (Nat × Value)} {L : Nat → va_E} {v : Int64} (hd : decode cc pc = .ok (.lreturn, 1)) (F : Fn g κ (some (.long v)) L) : J g κ nL pc lv [.long v] L := by
  obtain ⟨p, l, e, R, s, m, args, below, meth, c, cells, slots, Q, D, A⟩ := g
  obtain ⟨hx, hb, hml, hr, hlk, hown, hts, hK, hN, hi, hA1, hA2, hc, hs, hR⟩ := G
  intro H locs ls hP hS hl
  have F : Q = _ := F
  subst F
  exact W.lret hx hb hr (fun t ht hW => ⟨⟨rfl, by rw [ht]; exact hP⟩, hS.F ht⟩) hS.2.2 hd
theorem w_zret {g : Gm} {κ : ctx} {own : String} {cc : ByteArray} {nL : Nat}  {rm : Room} (G : OK g κ own cc nL (some .boolean) rm) {pc : Nat} {lv : List (Nat × Value)} {L : Nat → va_E} {v : Int32} (hn : narrow .boolean (.int v) = .int v) (hd : decode cc pc = .ok (.ireturn, 1)) (F : Fn g κ (some (.int v)) L) : J g κ nL pc lv [.int v] L := by
  obtain ⟨p, l, e, R, s, m, args, below, meth, c, cells, slots, Q, D, A⟩ := g
  obtain ⟨hx, hb, hml, hr, hlk, hown, hts, hK, hN, hi, hA1, hA2, hc, hs, hR⟩ := G
  intro H locs ls hP hS hl
  have F : Q = _ := F
  subst F
  exact W.zret hx hb hr hn (fun t ht hW => ⟨⟨rfl, by rw [ht]; exact hP⟩, hS.F ht⟩) hS.2.2 hd
theorem w_vret {g : Gm} {κ : ctx} {own : String} {cc : ByteArray} {nL : Nat}  {rm : Room} (G : OK g κ own cc nL none rm) {pc : Nat} {lv : List (Nat × Value)} {L : Nat → va_E} (hd : decode cc pc = .ok (.return_, 1)) (F : Fn g κ none L) : J g κ nL pc lv [] L := by
  obtain ⟨p, l, e, R, s, m, args, below, meth, c, cells, slots, Q, D, A⟩ := g
  obtain ⟨hx, hb, hml, hr, hlk, hown, hts, hK, hN, hi, hA1, hA2, hc, hs, hR⟩ := G
  intro H locs ls hP hS hl
  have F : Q = _ := F
  subst F
  exact W.vret hx hb hr (fun t ht hW => ⟨⟨rfl, by rw [ht]; exact hP⟩, hS.F ht⟩) hS.2.2 hd
theorem w_aret {g : Gm} {κ : ctx} {own : String} {cc : ByteArray} {nL : Nat} {rt : FieldType} {rm : Room} (G : OK g κ own cc nL (some rt) rm) {pc : Nat} {lv : List (Nat × Value)} {L : Nat → va_E} {a : Nat} (hrt : (∃ n, rt = .object n) ∨ ∃ t, rt = .array t) (hd : decode cc pc = .ok (.areturn, 1)) (F : Fn g κ (some (.ref a)) L) : J g κ nL pc lv [.ref a] L := by
  obtain ⟨p, l, e, R, s, m, args, below, meth, c, cells, slots, Q, D, A⟩ := g
  obtain ⟨hx, hb, hml, hr, hlk, hown, hts, hK, hN, hi, hA1, hA2, hc, hs, hR⟩ := G
  intro H locs ls hP hS hl
  have F : Q = _ := F
  subst F
  exact W.aret hx hb hr hrt (Or.inr ⟨a, rfl⟩) (fun t ht hW => ⟨⟨rfl, by rw [ht]; exact hP⟩, hS.F ht⟩) hS.2.2 hd
theorem g_after {p : Program} {l : Launch} {e : Env} {R : Room} {s : State} {m : MethodId} {args : Array Value} {below : List Frame} {meth : Method} {c : Code} {H : Heap} {locs : List Loc} {cells slots : Nat} {Q : State → Prop} {pc : Nat} {ls : Array Slot} {st0 rest : List Value} {D : va_G} {κ : ctx} {A A1 free : Nat → Prop} {v : Option Value} {L' : Nat → va_E} {av : Array Value}
    (hr : va_Run p l e R s m args below meth c H locs cells slots 0 0 (F0 m pc ls st0) rest (Qx D κ A1 v L' av) free) (hS : va_S A s.heap H locs) (hA : ∀ q, A1 q → A q) (hf : ∀ q, free q → A q)
    (kk : ∀ (H1 : Heap) (locs1 : List Loc), va_P D classes (wl κ.1 L') H1 → va_S A s.heap H1 locs1 → W p l e R s m args below meth c H1 locs1 cells slots Q (F0 m (pc + 3) ls (v.toList ++ rest))) : W p l e R s m args below meth c H locs cells slots Q (F0 m pc ls st0) := by
  intro T hT X
  obtain ⟨v', st₀, t, T', L, h0, X', hL, e1, e2, ⟨⟨hv, hp⟩, hz, hk⟩, st⟩ := hr T hT X
  have ev : v' = v := Outcome.returned.inj hv
  subst ev
  rw [h0] at hz hk
  obtain ⟨t2, a1, b1⟩ := kk T'.heap (locs ++ L) (by rw [e1]; exact hp)
    ⟨Nat.le_trans hS.1 (by rw [e1]; exact hz), fun q h1 h2 => by rw [e1, hk q (Nat.lt_of_lt_of_le h1 hS.1) (fun z => h2 (hA q z))]; exact hS.2.1 q h1 h2, fun q hq => by
      rcases List.mem_append.mp hq with h | h
      · exact hS.2.2 q h
      · exact hf _ (hL q h)⟩ T' rfl X'
  exact ⟨t2, st t2 a1, b1⟩
/-- what a call needs of the tables, of the descriptor and of the room -/
def CB (y : MethodName) (b : ByteArray) (n' : Nat) (r' : Option FieldType) (rm' rm : Room) (n : Nat) : Prop := Cond.code y b n' r' ∈ utbl ∧ Cond.initialized y.cls ∈ utbl ∧ (y.cls ≠ "java/lang/invoke/MethodHandle" ∧ y.cls ≠ "java/lang/invoke/VarHandle" ∧ (parseMethodDescriptor y.desc).map (fun d => d.parameters.length) = some n) ∧ rm'.cells = 0 ∧ rm'.slots = 0 ∧ (rm'.frames + 1 ≤ rm.frames ∧ 8 + (n' + 11) + rm'.locals ≤ rm.locals)
theorem Pre.blind {D : va_G} {κ : ctx} {L : Nat → va_E} {sz : Nat} {av : List Value} : FrameBlind (va_Pc av (Pre D κ L sz)) := fun a3 U a4 a5 h => ⟨h.1, h.2.1, h.2.2.1, va_K.moved (u := U) (U := U.calling a4 a5 a3) (Vm.Alike.refl U.vm) h.2.2.2.1, NS.same (u := U) (U := U.calling a4 a5 a3) rfl h.2.2.2.2.1, h.2.2.2.2.2⟩
theorem w_callS {g : Gm} {κ : ctx} {own : String} {cc : ByteArray} {nL : Nat} {ret : Option FieldType} {rm : Room} (G : OK g κ own cc nL ret rm) {pc : Nat} {lv : List (Nat × Value)} {rest : List Value} {L : Nat → va_E} {y : MethodName} {b' : ByteArray} {n' index n : Nat} {r' : Option FieldType} {rm' : Room} {av : List Value} {v : Option Value} {L' : Nat → va_E} (hC : CB y b' n' r' rm' rm n) (hst : Cond.static y ∈ utbl) (hlink : Cond.methodLink own index y ∈ utbl) (hM : Mt y b' n' r' rm' κ av L v L') {st st' : List Value} (hst1 : av.reverse ++ rest = st) (hst2 : v.toList ++ rest = st') (hn : av.length = n) (hroom : (rest.map fun v => v.category).sum ≤ 8) (hd : decode cc pc = .ok (.invokestatic index, 3)) (k : J g κ nL (pc + 3) lv st' L') : J g κ nL pc lv st L := by
  obtain ⟨p, l, e, R, s, m, args, below, meth, c, cells, slots, Q, D, A⟩ := g
  obtain ⟨hx, hb, hml, hr, hlk, hown, hts, hK, hN, hi, hA1, hA2, hc, hs, hR⟩ := G
  intro H locs ls hP hS hl
  subst hR
  subst hst1
  subst hst2
  obtain ⟨c1, c2, c3, c4, c5, c6⟩ := hC
  have hAin := wl_Ain (L := L) (sz := H.size) hA1 (fun q hq => hA2 q (Nat.le_trans hS.1 hq))
  exact g_after (va_runS (As := av) (rest := rest) ⟨hx, hb, hml, hown, hts⟩ (hM l D H.size) ⟨callB_of n hts (uw_in c1) rfl c4 c5 (hts _ c2) (hts _ hlink) c3 c6, hts _ hst⟩ ⟨Pre.blind, fun U hU hW => ⟨rfl, by rw [hU], by rw [hU]; exact hP, va_K.moved hW.alike hK, NS.warm hW hN, hi⟩⟩ rfl hn hl.1 rfl (lv_room hroom) hd ⟨hc, hs⟩) hS hAin hAin (fun H1 locs1 hP1 hS1 => k H1 locs1 ls hP1 hS1 hl)
theorem w_callSN {g : Gm} {κ : ctx} {own : String} {cc : ByteArray} {nL : Nat} {ret : Option FieldType} {rm : Room} (G : OK g κ own cc nL ret rm) {pc : Nat} {lv : List (Nat × Value)} {rest : List Value} {L : Nat → va_E} {y : MethodName} {b' : ByteArray} {n' index n : Nat} {r' : Option FieldType} {rm' : Room} {av : List Value} {v : Option Value} {L' : Nat → va_E} {host : String} (hC : CB y b' n' r' rm' rm n) (hst : Cond.static y ∈ utbl) (hlink : Cond.methodLinkNest own index y host ∈ lw_tbl) (hM : Mt y b' n' r' rm' κ av L v L') {st st' : List Value} (hst1 : av.reverse ++ rest = st) (hst2 : v.toList ++ rest = st') (hn : av.length = n) (hroom : (rest.map fun v => v.category).sum ≤ 8) (hd : decode cc pc = .ok (.invokestatic index, 3)) (k : J g κ nL (pc + 3) lv st' L') : J g κ nL pc lv st L := by
  obtain ⟨p, l, e, R, s, m, args, below, meth, c, cells, slots, Q, D, A⟩ := g
  obtain ⟨hx, hb, hml, hr, hlk, hown, hts, hK, hN, hi, hA1, hA2, hc, hs, hR⟩ := G
  intro H locs ls hP hS hl
  subst hR
  subst hst1
  subst hst2
  obtain ⟨c1, c2, c3, c4, c5, c6⟩ := hC
  have hAin := wl_Ain (L := L) (sz := H.size) hA1 (fun q hq => hA2 q (Nat.le_trans hS.1 hq))
  exact g_after (va_runSN (As := av) (rest := rest) ⟨hx, hb, hml, hown, hts⟩ (hM l D H.size) ⟨va_cnB n hts (uw_in c1) rfl c4 c5 (hN _ hlink rfl) (hts _ c2) c3 c6, hts _ hst, trivial⟩ ⟨Pre.blind, fun U hU hW => ⟨rfl, by rw [hU], by rw [hU]; exact hP, va_K.moved hW.alike hK, NS.warm hW hN, hi⟩⟩ rfl hn hl.1 rfl (lv_room hroom) hd ⟨hc, hs⟩) hS hAin hAin (fun H1 locs1 hP1 hS1 => k H1 locs1 ls hP1 hS1 hl)
theorem w_callV {g : Gm} {κ : ctx} {own : String} {cc : ByteArray} {nL : Nat} {ret : Option FieldType} {rm : Room} (G : OK g κ own cc nL ret rm) {pc : Nat} {lv : List (Nat × Value)} {rest : List Value} {L : Nat → va_E} {y : MethodName} {b' : ByteArray} {n' index n : Nat} {r' : Option FieldType} {rm' : Room} {av : List Value} {v : Option Value} {L' : Nat → va_E} (q ci N : Nat) {T : u_T} {fs : List Value} (hq : q < NW) (he : L q = .inr (ci, fs)) (hc1 : classes[ci]? = some (y.cls, T, N)) (hC : CB y b' n' r' rm' rm n) (hinst : Cond.instanceMethod y ∈ utbl) (hsel : Cond.selects y.cls y y ∈ utbl) (hlink : Cond.methodLink own index y ∈ utbl) (hM : Mt y b' n' r' rm' κ (.ref (κ.1 q) :: av) L v L') {st st' : List Value} (hst1 : av.reverse ++ .ref (κ.1 q) :: rest = st) (hst2 : v.toList ++ rest = st') (hn : av.length = n) (hroom : (rest.map fun v => v.category).sum ≤ 8) (hd : decode cc pc = .ok (.invokevirtual index, 3)) (k : J g κ nL (pc + 3) lv st' L') : J g κ nL pc lv st L := by
  obtain ⟨p, l, e, R, s, m, args, below, meth, c, cells, slots, Q, D, A⟩ := g
  obtain ⟨hx, hb, hml, hr, hlk, hown, hts, hK, hN, hi, hA1, hA2, hc, hs, hR⟩ := G
  intro H locs ls hP hS hl
  subst hR
  subst hst1
  subst hst2
  obtain ⟨c1, c2, c3, c4, c5, c6⟩ := hC
  have hAin := wl_Ain (L := L) (sz := H.size) hA1 (fun q hq => hA2 q (Nat.le_trans hS.1 hq))
  have hw9 : (wl κ.1 L)[q]? = some (κ.1 q, .inr (ci, fs)) := by rw [wl_get hq, he]
  exact g_after (va_runV (As := av) (rest := rest) ⟨hx, hb, hml, hown, hts⟩ (hM l D H.size) ⟨callB_of n hts (uw_in c1) rfl c4 c5 (hts _ c2) (hts _ hlink) c3 c6, hts _ hinst, hts _ hsel⟩ ⟨Pre.blind, va_recv hK hP hc1 hw9, fun U hU hW => ⟨rfl, by rw [hU], by rw [hU]; exact hP, va_K.moved hW.alike hK, NS.warm hW hN, hi⟩⟩ rfl hn hl.1 rfl (lv_room hroom) hd ⟨hc, hs⟩) hS hAin hAin (fun H1 locs1 hP1 hS1 => k H1 locs1 ls hP1 hS1 hl)
theorem w_sub {g : Gm} {κ : ctx} {nL pc : Nat} {lv lv' : List (Nat × Value)} {st : List Value} {L : Nat → va_E} (is : List Nat) (h : is.filterMap (fun i => lv[i]?) = lv') (k : J g κ nL pc lv' st L) : J g κ nL pc lv st L := by
  obtain ⟨p, l, e, R, s, m, args, below, meth, c, cells, slots, Q, D, A⟩ := g
  intro H locs ls hP hS hl
  exact k H locs ls hP hS (lv_sub hl is h)
theorem w_eqL {g : Gm} {κ : ctx} {nL pc : Nat} {lv : List (Nat × Value)} {st : List Value} {L L' : Nat → va_E} (h : L = L') (k : J g κ nL pc lv st L') : J g κ nL pc lv st L := h ▸ k
/-- a part of a model that goes on only where c holds -/
noncomputable def gd {α : Type} (c : Prop) (x : Option α) : Option α := @ite _ c (Classical.propDecidable c) x none
theorem gd_some {α : Type} {c : Prop} {x : Option α} {b : α} (h : gd c x = some b) : c ∧ x = some b := by
  unfold gd at h
  by_cases hc : c
  · rw [if_pos hc] at h; exact ⟨hc, h⟩
  · rw [if_neg hc] at h; cases h
theorem gd_t {α : Type} {c : Prop} {x : Option α} (h : c) : gd c x = x := by unfold gd; rw [if_pos h]
theorem bd {α β : Type} {x : Option α} {f : α → Option β} {b : β} (h : x.bind f = some b) : ∃ a, x = some a ∧ f a = some b := Option.bind_eq_some_iff.mp h
theorem if_t {α : Type} {c : Prop} {i : Decidable c} {x y : Option α} {b : α} (hc : c) (h : @ite _ c i x y = some b) : x = some b := by rw [if_pos hc] at h; exact h
theorem if_f {α : Type} {c : Prop} {i : Decidable c} {x y : Option α} {b : α} (hc : ¬ c) (h : @ite _ c i x y = some b) : y = some b := by rw [if_neg hc] at h; exact h
end
section
theorem wd0 : (Jvm.Cond.initialized "ShortVectorsLaw") ∈ utbl := u_mem (List.mem_of_getElem? (i := 49) (by decide +kernel)) (by decide +kernel)
theorem wd1 : (Jvm.Cond.initialized "ShortVectors") ∈ utbl := u_mem (List.mem_of_getElem? (i := 50) (by decide +kernel)) (by decide +kernel)
theorem wd2 : (Jvm.Cond.initialized "ShortVectors$Echelon") ∈ utbl := u_mem (List.mem_of_getElem? (i := 51) (by decide +kernel)) (by decide +kernel)
theorem wd3 : (Jvm.Cond.initialized "ShortVectors$Basis") ∈ utbl := u_mem (List.mem_of_getElem? (i := 52) (by decide +kernel)) (by decide +kernel)
theorem wd4 : (Jvm.Cond.initialized "ShortVectors$Collector") ∈ utbl := u_mem (List.mem_of_getElem? (i := 53) (by decide +kernel)) (by decide +kernel)
theorem wd5 : (Jvm.Cond.initialized "ShortVectors$Tally") ∈ utbl := u_mem (List.mem_of_getElem? (i := 54) (by decide +kernel)) (by decide +kernel)
theorem wd6 : (Jvm.Cond.initialized "ShortVectors$FirstVectors") ∈ utbl := u_mem (List.mem_of_getElem? (i := 55) (by decide +kernel)) (by decide +kernel)
theorem wd7 : (Jvm.Cond.initialized "ShortVectors$Closest") ∈ utbl := u_mem (List.mem_of_getElem? (i := 56) (by decide +kernel)) (by decide +kernel)
theorem wd8 : (Jvm.Cond.initialized "ShortVectorsModel") ∈ utbl := u_mem (List.mem_of_getElem? (i := 57) (by decide +kernel)) (by decide +kernel)
theorem wd9 : (Jvm.Cond.initialized "java/lang/System") ∈ utbl := u_mem (List.mem_of_getElem? (i := 58) (by decide +kernel)) (by decide +kernel)
theorem wd10 : (Jvm.Cond.initialized "java/lang/Math") ∈ utbl := u_mem (List.mem_of_getElem? (i := 59) (by decide +kernel)) (by decide +kernel)
theorem wd11 : (Jvm.Cond.initialized "java/util/Arrays") ∈ utbl := u_mem (List.mem_of_getElem? (i := 60) (by decide +kernel)) (by decide +kernel)
theorem wd12 : (Jvm.Cond.classLink "ShortVectorsLaw" (7 : Nat) "ShortVectors") ∈ utbl := u_mem (List.mem_of_getElem? (i := 61) (by decide +kernel)) (by decide +kernel)
theorem wd13 : (Jvm.Cond.instantiable "ShortVectors" (12 : Nat)) ∈ utbl := u_mem (List.mem_of_getElem? (i := 62) (by decide +kernel)) (by decide +kernel)
theorem wd14 : (Jvm.Cond.methodLink "ShortVectorsLaw" (9 : Nat) ({ cls := "ShortVectors", name := "<init>", desc := "()V" } : Jvm.MethodName)) ∈ utbl := u_mem (List.mem_of_getElem? (i := 63) (by decide +kernel)) (by decide +kernel)
theorem wd15 : (Jvm.Cond.instanceMethod ({ cls := "ShortVectors", name := "<init>", desc := "()V" } : Jvm.MethodName)) ∈ utbl := u_mem (List.mem_of_getElem? (i := 64) (by decide +kernel)) (by decide +kernel)
theorem wd16 : (Jvm.Cond.code ({ cls := "ShortVectors", name := "<init>", desc := "()V" } : Jvm.MethodName) prog_1_method_1_code (1 : Nat) (Option.none : Option Jvm.ClassFile.FieldType)) ∈ utbl := u_mem (List.mem_of_getElem? (i := 65) (by decide +kernel)) (by decide +kernel)
theorem wd17 : (Jvm.Cond.methodLink "ShortVectors" (1 : Nat) ({ cls := "java/lang/Object", name := "<init>", desc := "()V" } : Jvm.MethodName)) ∈ utbl := u_mem (List.mem_of_getElem? (i := 66) (by decide +kernel)) (by decide +kernel)
theorem wd18 : (Jvm.Cond.instanceMethod ({ cls := "java/lang/Object", name := "<init>", desc := "()V" } : Jvm.MethodName)) ∈ utbl := u_mem (List.mem_of_getElem? (i := 67) (by decide +kernel)) (by decide +kernel)
theorem wd19 : (Jvm.Cond.code ({ cls := "java/lang/Object", name := "<init>", desc := "()V" } : Jvm.MethodName) object_method_1_code (1 : Nat) (Option.none : Option Jvm.ClassFile.FieldType)) ∈ utbl := u_mem (List.mem_of_getElem? (i := 68) (by decide +kernel)) (by decide +kernel)
theorem wd20 : (Jvm.Cond.classLink "ShortVectors" (9 : Nat) "[[J") ∈ utbl := u_mem (List.mem_of_getElem? (i := 69) (by decide +kernel)) (by decide +kernel)
theorem wd22 : (Jvm.Cond.classLink "ShortVectors" (18 : Nat) "ShortVectors$Echelon") ∈ utbl := u_mem (List.mem_of_getElem? (i := 71) (by decide +kernel)) (by decide +kernel)
theorem wd23 : (Jvm.Cond.instantiable "ShortVectors$Echelon" (2 : Nat)) ∈ utbl := u_mem (List.mem_of_getElem? (i := 72) (by decide +kernel)) (by decide +kernel)
theorem wd24 : (Jvm.Cond.methodLinkNest "ShortVectors" (20 : Nat) ({ cls := "ShortVectors$Echelon", name := "<init>", desc := "()V" } : Jvm.MethodName) "ShortVectors") ∈ lw_tbl := List.mem_of_getElem? (i := 73) (by decide +kernel)
theorem wd25 : (Jvm.Cond.instanceMethod ({ cls := "ShortVectors$Echelon", name := "<init>", desc := "()V" } : Jvm.MethodName)) ∈ utbl := u_mem (List.mem_of_getElem? (i := 74) (by decide +kernel)) (by decide +kernel)
theorem wd26 : (Jvm.Cond.code ({ cls := "ShortVectors$Echelon", name := "<init>", desc := "()V" } : Jvm.MethodName) prog_5_method_1_code (1 : Nat) (Option.none : Option Jvm.ClassFile.FieldType)) ∈ utbl := u_mem (List.mem_of_getElem? (i := 75) (by decide +kernel)) (by decide +kernel)
theorem wd27 : (Jvm.Cond.methodLink "ShortVectors$Echelon" (3 : Nat) ({ cls := "java/lang/Object", name := "<init>", desc := "()V" } : Jvm.MethodName)) ∈ utbl := u_mem (List.mem_of_getElem? (i := 76) (by decide +kernel)) (by decide +kernel)
theorem wd28 : (Jvm.Cond.classLink "ShortVectors$Echelon" (9 : Nat) "[[J") ∈ utbl := u_mem (List.mem_of_getElem? (i := 77) (by decide +kernel)) (by decide +kernel)
theorem wd29 : (Jvm.Cond.fieldLink "ShortVectors$Echelon" (11 : Nat) "ShortVectors$Echelon" "rows" "[[J") ∈ utbl := u_mem (List.mem_of_getElem? (i := 78) (by decide +kernel)) (by decide +kernel)
theorem wd30 : (Jvm.Cond.fieldLink "ShortVectors$Echelon" (16 : Nat) "ShortVectors$Echelon" "rest" "[J") ∈ utbl := u_mem (List.mem_of_getElem? (i := 79) (by decide +kernel)) (by decide +kernel)
theorem wd31 : (Jvm.Cond.laysFinal "ShortVectors$Echelon" "ShortVectors$Echelon" "rows" "[[J") ∈ utbl := u_mem (List.mem_of_getElem? (i := 80) (by decide +kernel)) (by decide +kernel)
theorem wd33 : (Jvm.Cond.laysFinal "ShortVectors$Echelon" "ShortVectors$Echelon" "rest" "[J") ∈ utbl := u_mem (List.mem_of_getElem? (i := 82) (by decide +kernel)) (by decide +kernel)
theorem wd36 : (Jvm.Cond.arrayClass Jvm.ClassFile.FieldType.long) ∈ utbl := u_mem (List.mem_of_getElem? (i := 85) (by decide +kernel)) (by decide +kernel)
theorem wd37 : (Jvm.Cond.classLink "ShortVectors" (28 : Nat) "ShortVectors$Basis") ∈ utbl := u_mem (List.mem_of_getElem? (i := 86) (by decide +kernel)) (by decide +kernel)
theorem wd38 : (Jvm.Cond.instantiable "ShortVectors$Basis" (8 : Nat)) ∈ utbl := u_mem (List.mem_of_getElem? (i := 87) (by decide +kernel)) (by decide +kernel)
theorem wd39 : (Jvm.Cond.methodLinkNest "ShortVectors" (30 : Nat) ({ cls := "ShortVectors$Basis", name := "<init>", desc := "()V" } : Jvm.MethodName) "ShortVectors") ∈ lw_tbl := List.mem_of_getElem? (i := 88) (by decide +kernel)
theorem wd40 : (Jvm.Cond.instanceMethod ({ cls := "ShortVectors$Basis", name := "<init>", desc := "()V" } : Jvm.MethodName)) ∈ utbl := u_mem (List.mem_of_getElem? (i := 89) (by decide +kernel)) (by decide +kernel)
theorem wd41 : (Jvm.Cond.code ({ cls := "ShortVectors$Basis", name := "<init>", desc := "()V" } : Jvm.MethodName) prog_2_method_1_code (1 : Nat) (Option.none : Option Jvm.ClassFile.FieldType)) ∈ utbl := u_mem (List.mem_of_getElem? (i := 90) (by decide +kernel)) (by decide +kernel)
theorem wd42 : (Jvm.Cond.methodLink "ShortVectors$Basis" (5 : Nat) ({ cls := "java/lang/Object", name := "<init>", desc := "()V" } : Jvm.MethodName)) ∈ utbl := u_mem (List.mem_of_getElem? (i := 91) (by decide +kernel)) (by decide +kernel)
theorem wd43 : (Jvm.Cond.classLink "ShortVectors$Basis" (11 : Nat) "[[J") ∈ utbl := u_mem (List.mem_of_getElem? (i := 92) (by decide +kernel)) (by decide +kernel)
theorem wd44 : (Jvm.Cond.fieldLink "ShortVectors$Basis" (13 : Nat) "ShortVectors$Basis" "rows" "[[J") ∈ utbl := u_mem (List.mem_of_getElem? (i := 93) (by decide +kernel)) (by decide +kernel)
theorem wd45 : (Jvm.Cond.fieldLink "ShortVectors$Basis" (16 : Nat) "ShortVectors$Basis" "directions" "[[J") ∈ utbl := u_mem (List.mem_of_getElem? (i := 94) (by decide +kernel)) (by decide +kernel)
theorem wd46 : (Jvm.Cond.fieldLink "ShortVectors$Basis" (19 : Nat) "ShortVectors$Basis" "directionSquares" "[J") ∈ utbl := u_mem (List.mem_of_getElem? (i := 95) (by decide +kernel)) (by decide +kernel)
theorem wd47 : (Jvm.Cond.fieldLink "ShortVectors$Basis" (23 : Nat) "ShortVectors$Basis" "strides" "[J") ∈ utbl := u_mem (List.mem_of_getElem? (i := 96) (by decide +kernel)) (by decide +kernel)
theorem wd48 : (Jvm.Cond.fieldLink "ShortVectors$Basis" (26 : Nat) "ShortVectors$Basis" "sums" "[[J") ∈ utbl := u_mem (List.mem_of_getElem? (i := 97) (by decide +kernel)) (by decide +kernel)
theorem wd49 : (Jvm.Cond.fieldLink "ShortVectors$Basis" (29 : Nat) "ShortVectors$Basis" "minors" "[[J") ∈ utbl := u_mem (List.mem_of_getElem? (i := 98) (by decide +kernel)) (by decide +kernel)
theorem wd50 : (Jvm.Cond.fieldLink "ShortVectors$Basis" (32 : Nat) "ShortVectors$Basis" "trial" "[J") ∈ utbl := u_mem (List.mem_of_getElem? (i := 99) (by decide +kernel)) (by decide +kernel)
theorem wd51 : (Jvm.Cond.fieldLink "ShortVectors$Basis" (35 : Nat) "ShortVectors$Basis" "size" "I") ∈ utbl := u_mem (List.mem_of_getElem? (i := 100) (by decide +kernel)) (by decide +kernel)
theorem wd52 : (Jvm.Cond.laysFinal "ShortVectors$Basis" "ShortVectors$Basis" "rows" "[[J") ∈ utbl := u_mem (List.mem_of_getElem? (i := 101) (by decide +kernel)) (by decide +kernel)
theorem wd54 : (Jvm.Cond.laysFinal "ShortVectors$Basis" "ShortVectors$Basis" "directions" "[[J") ∈ utbl := u_mem (List.mem_of_getElem? (i := 103) (by decide +kernel)) (by decide +kernel)
theorem wd56 : (Jvm.Cond.laysFinal "ShortVectors$Basis" "ShortVectors$Basis" "directionSquares" "[J") ∈ utbl := u_mem (List.mem_of_getElem? (i := 105) (by decide +kernel)) (by decide +kernel)
theorem wd58 : (Jvm.Cond.laysFinal "ShortVectors$Basis" "ShortVectors$Basis" "strides" "[J") ∈ utbl := u_mem (List.mem_of_getElem? (i := 107) (by decide +kernel)) (by decide +kernel)
theorem wd60 : (Jvm.Cond.laysFinal "ShortVectors$Basis" "ShortVectors$Basis" "sums" "[[J") ∈ utbl := u_mem (List.mem_of_getElem? (i := 109) (by decide +kernel)) (by decide +kernel)
theorem wd62 : (Jvm.Cond.laysFinal "ShortVectors$Basis" "ShortVectors$Basis" "minors" "[[J") ∈ utbl := u_mem (List.mem_of_getElem? (i := 111) (by decide +kernel)) (by decide +kernel)
theorem wd64 : (Jvm.Cond.laysFinal "ShortVectors$Basis" "ShortVectors$Basis" "trial" "[J") ∈ utbl := u_mem (List.mem_of_getElem? (i := 113) (by decide +kernel)) (by decide +kernel)
theorem wd66 : (Jvm.Cond.lays "ShortVectors$Basis" "ShortVectors$Basis" "size" "I") ∈ utbl := u_mem (List.mem_of_getElem? (i := 115) (by decide +kernel)) (by decide +kernel)
theorem wd69 : (Jvm.Cond.classLink "ShortVectors" (35 : Nat) "ShortVectors$Tally") ∈ utbl := u_mem (List.mem_of_getElem? (i := 118) (by decide +kernel)) (by decide +kernel)
theorem wd70 : (Jvm.Cond.instantiable "ShortVectors$Tally" (3 : Nat)) ∈ utbl := u_mem (List.mem_of_getElem? (i := 119) (by decide +kernel)) (by decide +kernel)
theorem wd71 : (Jvm.Cond.methodLinkNest "ShortVectors" (37 : Nat) ({ cls := "ShortVectors$Tally", name := "<init>", desc := "()V" } : Jvm.MethodName) "ShortVectors") ∈ lw_tbl := List.mem_of_getElem? (i := 120) (by decide +kernel)
theorem wd72 : (Jvm.Cond.instanceMethod ({ cls := "ShortVectors$Tally", name := "<init>", desc := "()V" } : Jvm.MethodName)) ∈ utbl := u_mem (List.mem_of_getElem? (i := 121) (by decide +kernel)) (by decide +kernel)
theorem wd73 : (Jvm.Cond.code ({ cls := "ShortVectors$Tally", name := "<init>", desc := "()V" } : Jvm.MethodName) prog_7_method_1_code (1 : Nat) (Option.none : Option Jvm.ClassFile.FieldType)) ∈ utbl := u_mem (List.mem_of_getElem? (i := 122) (by decide +kernel)) (by decide +kernel)
theorem wd74 : (Jvm.Cond.methodLinkNest "ShortVectors$Tally" (3 : Nat) ({ cls := "ShortVectors$Collector", name := "<init>", desc := "()V" } : Jvm.MethodName) "ShortVectors") ∈ lw_tbl := List.mem_of_getElem? (i := 123) (by decide +kernel)
theorem wd75 : (Jvm.Cond.instanceMethod ({ cls := "ShortVectors$Collector", name := "<init>", desc := "()V" } : Jvm.MethodName)) ∈ utbl := u_mem (List.mem_of_getElem? (i := 124) (by decide +kernel)) (by decide +kernel)
theorem wd76 : (Jvm.Cond.code ({ cls := "ShortVectors$Collector", name := "<init>", desc := "()V" } : Jvm.MethodName) prog_4_method_1_code (1 : Nat) (Option.none : Option Jvm.ClassFile.FieldType)) ∈ utbl := u_mem (List.mem_of_getElem? (i := 125) (by decide +kernel)) (by decide +kernel)
theorem wd77 : (Jvm.Cond.methodLink "ShortVectors$Collector" (3 : Nat) ({ cls := "java/lang/Object", name := "<init>", desc := "()V" } : Jvm.MethodName)) ∈ utbl := u_mem (List.mem_of_getElem? (i := 126) (by decide +kernel)) (by decide +kernel)
theorem wd78 : (Jvm.Cond.fieldLink "ShortVectors$Tally" (9 : Nat) "ShortVectors$Tally" "sums" "[I") ∈ utbl := u_mem (List.mem_of_getElem? (i := 127) (by decide +kernel)) (by decide +kernel)
theorem wd79 : (Jvm.Cond.fieldLink "ShortVectors$Collector" (9 : Nat) "ShortVectors$Collector" "goal" "[J") ∈ utbl := u_mem (List.mem_of_getElem? (i := 128) (by decide +kernel)) (by decide +kernel)
theorem wd80 : (Jvm.Cond.fieldLink "ShortVectors$Collector" (15 : Nat) "ShortVectors$Collector" "budget" "J") ∈ utbl := u_mem (List.mem_of_getElem? (i := 129) (by decide +kernel)) (by decide +kernel)
theorem wd81 : (Jvm.Cond.laysFinal "ShortVectors$Tally" "ShortVectors$Tally" "sums" "[I") ∈ utbl := u_mem (List.mem_of_getElem? (i := 130) (by decide +kernel)) (by decide +kernel)
theorem wd83 : (Jvm.Cond.laysFinal "ShortVectors$Tally" "ShortVectors$Collector" "goal" "[J") ∈ utbl := u_mem (List.mem_of_getElem? (i := 132) (by decide +kernel)) (by decide +kernel)
theorem wd85 : (Jvm.Cond.lays "ShortVectors$Tally" "ShortVectors$Collector" "budget" "J") ∈ utbl := u_mem (List.mem_of_getElem? (i := 134) (by decide +kernel)) (by decide +kernel)
theorem wd88 : (Jvm.Cond.arrayClass Jvm.ClassFile.FieldType.int) ∈ utbl := u_mem (List.mem_of_getElem? (i := 137) (by decide +kernel)) (by decide +kernel)
theorem wd89 : (Jvm.Cond.classLink "ShortVectors" (42 : Nat) "ShortVectors$FirstVectors") ∈ utbl := u_mem (List.mem_of_getElem? (i := 138) (by decide +kernel)) (by decide +kernel)
theorem wd90 : (Jvm.Cond.instantiable "ShortVectors$FirstVectors" (5 : Nat)) ∈ utbl := u_mem (List.mem_of_getElem? (i := 139) (by decide +kernel)) (by decide +kernel)
theorem wd91 : (Jvm.Cond.methodLinkNest "ShortVectors" (44 : Nat) ({ cls := "ShortVectors$FirstVectors", name := "<init>", desc := "()V" } : Jvm.MethodName) "ShortVectors") ∈ lw_tbl := List.mem_of_getElem? (i := 140) (by decide +kernel)
theorem wd92 : (Jvm.Cond.instanceMethod ({ cls := "ShortVectors$FirstVectors", name := "<init>", desc := "()V" } : Jvm.MethodName)) ∈ utbl := u_mem (List.mem_of_getElem? (i := 141) (by decide +kernel)) (by decide +kernel)
theorem wd93 : (Jvm.Cond.code ({ cls := "ShortVectors$FirstVectors", name := "<init>", desc := "()V" } : Jvm.MethodName) prog_6_method_1_code (1 : Nat) (Option.none : Option Jvm.ClassFile.FieldType)) ∈ utbl := u_mem (List.mem_of_getElem? (i := 142) (by decide +kernel)) (by decide +kernel)
theorem wd94 : (Jvm.Cond.methodLinkNest "ShortVectors$FirstVectors" (3 : Nat) ({ cls := "ShortVectors$Collector", name := "<init>", desc := "()V" } : Jvm.MethodName) "ShortVectors") ∈ lw_tbl := List.mem_of_getElem? (i := 143) (by decide +kernel)
theorem wd95 : (Jvm.Cond.classLink "ShortVectors$FirstVectors" (9 : Nat) "[[J") ∈ utbl := u_mem (List.mem_of_getElem? (i := 144) (by decide +kernel)) (by decide +kernel)
theorem wd96 : (Jvm.Cond.fieldLink "ShortVectors$FirstVectors" (11 : Nat) "ShortVectors$FirstVectors" "vectors" "[[J") ∈ utbl := u_mem (List.mem_of_getElem? (i := 145) (by decide +kernel)) (by decide +kernel)
theorem wd97 : (Jvm.Cond.fieldLink "ShortVectors$FirstVectors" (16 : Nat) "ShortVectors$FirstVectors" "squares" "[J") ∈ utbl := u_mem (List.mem_of_getElem? (i := 146) (by decide +kernel)) (by decide +kernel)
theorem wd98 : (Jvm.Cond.fieldLink "ShortVectors$FirstVectors" (20 : Nat) "ShortVectors$FirstVectors" "listLength" "I") ∈ utbl := u_mem (List.mem_of_getElem? (i := 147) (by decide +kernel)) (by decide +kernel)
theorem wd99 : (Jvm.Cond.laysFinal "ShortVectors$FirstVectors" "ShortVectors$FirstVectors" "vectors" "[[J") ∈ utbl := u_mem (List.mem_of_getElem? (i := 148) (by decide +kernel)) (by decide +kernel)
theorem wd101 : (Jvm.Cond.laysFinal "ShortVectors$FirstVectors" "ShortVectors$FirstVectors" "squares" "[J") ∈ utbl := u_mem (List.mem_of_getElem? (i := 150) (by decide +kernel)) (by decide +kernel)
theorem wd103 : (Jvm.Cond.lays "ShortVectors$FirstVectors" "ShortVectors$FirstVectors" "listLength" "I") ∈ utbl := u_mem (List.mem_of_getElem? (i := 152) (by decide +kernel)) (by decide +kernel)
theorem wd105 : (Jvm.Cond.laysFinal "ShortVectors$FirstVectors" "ShortVectors$Collector" "goal" "[J") ∈ utbl := u_mem (List.mem_of_getElem? (i := 154) (by decide +kernel)) (by decide +kernel)
theorem wd106 : (Jvm.Cond.lays "ShortVectors$FirstVectors" "ShortVectors$Collector" "budget" "J") ∈ utbl := u_mem (List.mem_of_getElem? (i := 155) (by decide +kernel)) (by decide +kernel)
theorem wd108 : (Jvm.Cond.classLink "ShortVectors" (49 : Nat) "ShortVectors$Closest") ∈ utbl := u_mem (List.mem_of_getElem? (i := 157) (by decide +kernel)) (by decide +kernel)
theorem wd109 : (Jvm.Cond.instantiable "ShortVectors$Closest" (4 : Nat)) ∈ utbl := u_mem (List.mem_of_getElem? (i := 158) (by decide +kernel)) (by decide +kernel)
theorem wd110 : (Jvm.Cond.methodLinkNest "ShortVectors" (51 : Nat) ({ cls := "ShortVectors$Closest", name := "<init>", desc := "()V" } : Jvm.MethodName) "ShortVectors") ∈ lw_tbl := List.mem_of_getElem? (i := 159) (by decide +kernel)
theorem wd111 : (Jvm.Cond.instanceMethod ({ cls := "ShortVectors$Closest", name := "<init>", desc := "()V" } : Jvm.MethodName)) ∈ utbl := u_mem (List.mem_of_getElem? (i := 160) (by decide +kernel)) (by decide +kernel)
theorem wd112 : (Jvm.Cond.code ({ cls := "ShortVectors$Closest", name := "<init>", desc := "()V" } : Jvm.MethodName) prog_3_method_1_code (1 : Nat) (Option.none : Option Jvm.ClassFile.FieldType)) ∈ utbl := u_mem (List.mem_of_getElem? (i := 161) (by decide +kernel)) (by decide +kernel)
theorem wd113 : (Jvm.Cond.methodLinkNest "ShortVectors$Closest" (3 : Nat) ({ cls := "ShortVectors$Collector", name := "<init>", desc := "()V" } : Jvm.MethodName) "ShortVectors") ∈ lw_tbl := List.mem_of_getElem? (i := 162) (by decide +kernel)
theorem wd114 : (Jvm.Cond.fieldLink "ShortVectors$Closest" (9 : Nat) "ShortVectors$Closest" "best" "[J") ∈ utbl := u_mem (List.mem_of_getElem? (i := 163) (by decide +kernel)) (by decide +kernel)
theorem wd115 : (Jvm.Cond.fieldLink "ShortVectors$Closest" (39 : Nat) "ShortVectors$Closest" "bestSquare" "J") ∈ utbl := u_mem (List.mem_of_getElem? (i := 164) (by decide +kernel)) (by decide +kernel)
theorem wd116 : (Jvm.Cond.laysFinal "ShortVectors$Closest" "ShortVectors$Closest" "best" "[J") ∈ utbl := u_mem (List.mem_of_getElem? (i := 165) (by decide +kernel)) (by decide +kernel)
theorem wd118 : (Jvm.Cond.lays "ShortVectors$Closest" "ShortVectors$Closest" "bestSquare" "J") ∈ utbl := u_mem (List.mem_of_getElem? (i := 167) (by decide +kernel)) (by decide +kernel)
theorem wd120 : (Jvm.Cond.laysFinal "ShortVectors$Closest" "ShortVectors$Collector" "goal" "[J") ∈ utbl := u_mem (List.mem_of_getElem? (i := 169) (by decide +kernel)) (by decide +kernel)
theorem wd121 : (Jvm.Cond.lays "ShortVectors$Closest" "ShortVectors$Collector" "budget" "J") ∈ utbl := u_mem (List.mem_of_getElem? (i := 170) (by decide +kernel)) (by decide +kernel)
theorem wd123 : (Jvm.Cond.fieldLink "ShortVectors" (11 : Nat) "ShortVectors" "added" "[[J") ∈ utbl := u_mem (List.mem_of_getElem? (i := 172) (by decide +kernel)) (by decide +kernel)
theorem wd124 : (Jvm.Cond.fieldLink "ShortVectors" (14 : Nat) "ShortVectors" "asked" "[J") ∈ utbl := u_mem (List.mem_of_getElem? (i := 173) (by decide +kernel)) (by decide +kernel)
theorem wd125 : (Jvm.Cond.fieldLink "ShortVectors" (21 : Nat) "ShortVectors" "echelon" "LShortVectors$Echelon;") ∈ utbl := u_mem (List.mem_of_getElem? (i := 174) (by decide +kernel)) (by decide +kernel)
theorem wd126 : (Jvm.Cond.fieldLink "ShortVectors" (25 : Nat) "ShortVectors" "others" "LShortVectors$Echelon;") ∈ utbl := u_mem (List.mem_of_getElem? (i := 175) (by decide +kernel)) (by decide +kernel)
theorem wd127 : (Jvm.Cond.fieldLink "ShortVectors" (31 : Nat) "ShortVectors" "basis" "LShortVectors$Basis;") ∈ utbl := u_mem (List.mem_of_getElem? (i := 176) (by decide +kernel)) (by decide +kernel)
theorem wd128 : (Jvm.Cond.fieldLink "ShortVectors" (38 : Nat) "ShortVectors" "tally" "LShortVectors$Tally;") ∈ utbl := u_mem (List.mem_of_getElem? (i := 177) (by decide +kernel)) (by decide +kernel)
theorem wd129 : (Jvm.Cond.fieldLink "ShortVectors" (45 : Nat) "ShortVectors" "first" "LShortVectors$FirstVectors;") ∈ utbl := u_mem (List.mem_of_getElem? (i := 178) (by decide +kernel)) (by decide +kernel)
theorem wd130 : (Jvm.Cond.fieldLink "ShortVectors" (52 : Nat) "ShortVectors" "closest" "LShortVectors$Closest;") ∈ utbl := u_mem (List.mem_of_getElem? (i := 179) (by decide +kernel)) (by decide +kernel)
theorem wd131 : (Jvm.Cond.fieldLink "ShortVectors" (56 : Nat) "ShortVectors" "held" "I") ∈ utbl := u_mem (List.mem_of_getElem? (i := 180) (by decide +kernel)) (by decide +kernel)
theorem wd132 : (Jvm.Cond.fieldLink "ShortVectors" (141 : Nat) "ShortVectors" "reduced" "Z") ∈ utbl := u_mem (List.mem_of_getElem? (i := 181) (by decide +kernel)) (by decide +kernel)
theorem wd133 : (Jvm.Cond.fieldLink "ShortVectors" (105 : Nat) "ShortVectors" "tallied" "Z") ∈ utbl := u_mem (List.mem_of_getElem? (i := 182) (by decide +kernel)) (by decide +kernel)
theorem wd134 : (Jvm.Cond.fieldLink "ShortVectors" (121 : Nat) "ShortVectors" "listed" "Z") ∈ utbl := u_mem (List.mem_of_getElem? (i := 183) (by decide +kernel)) (by decide +kernel)
theorem wd135 : (Jvm.Cond.laysFinal "ShortVectors" "ShortVectors" "added" "[[J") ∈ utbl := u_mem (List.mem_of_getElem? (i := 184) (by decide +kernel)) (by decide +kernel)
theorem wd137 : (Jvm.Cond.laysFinal "ShortVectors" "ShortVectors" "asked" "[J") ∈ utbl := u_mem (List.mem_of_getElem? (i := 186) (by decide +kernel)) (by decide +kernel)
theorem wd139 : (Jvm.Cond.laysFinal "ShortVectors" "ShortVectors" "echelon" "LShortVectors$Echelon;") ∈ utbl := u_mem (List.mem_of_getElem? (i := 188) (by decide +kernel)) (by decide +kernel)
theorem wd141 : (Jvm.Cond.laysFinal "ShortVectors" "ShortVectors" "others" "LShortVectors$Echelon;") ∈ utbl := u_mem (List.mem_of_getElem? (i := 190) (by decide +kernel)) (by decide +kernel)
theorem wd143 : (Jvm.Cond.laysFinal "ShortVectors" "ShortVectors" "basis" "LShortVectors$Basis;") ∈ utbl := u_mem (List.mem_of_getElem? (i := 192) (by decide +kernel)) (by decide +kernel)
theorem wd145 : (Jvm.Cond.laysFinal "ShortVectors" "ShortVectors" "tally" "LShortVectors$Tally;") ∈ utbl := u_mem (List.mem_of_getElem? (i := 194) (by decide +kernel)) (by decide +kernel)
theorem wd147 : (Jvm.Cond.laysFinal "ShortVectors" "ShortVectors" "first" "LShortVectors$FirstVectors;") ∈ utbl := u_mem (List.mem_of_getElem? (i := 196) (by decide +kernel)) (by decide +kernel)
theorem wd149 : (Jvm.Cond.laysFinal "ShortVectors" "ShortVectors" "closest" "LShortVectors$Closest;") ∈ utbl := u_mem (List.mem_of_getElem? (i := 198) (by decide +kernel)) (by decide +kernel)
theorem wd151 : (Jvm.Cond.lays "ShortVectors" "ShortVectors" "held" "I") ∈ utbl := u_mem (List.mem_of_getElem? (i := 200) (by decide +kernel)) (by decide +kernel)
theorem wd153 : (Jvm.Cond.lays "ShortVectors" "ShortVectors" "reduced" "Z") ∈ utbl := u_mem (List.mem_of_getElem? (i := 202) (by decide +kernel)) (by decide +kernel)
theorem wd155 : (Jvm.Cond.lays "ShortVectors" "ShortVectors" "tallied" "Z") ∈ utbl := u_mem (List.mem_of_getElem? (i := 204) (by decide +kernel)) (by decide +kernel)
theorem wd157 : (Jvm.Cond.lays "ShortVectors" "ShortVectors" "listed" "Z") ∈ utbl := u_mem (List.mem_of_getElem? (i := 206) (by decide +kernel)) (by decide +kernel)
theorem wd160 : (Jvm.Cond.methodLink "ShortVectorsLaw" (13 : Nat) ({ cls := "ShortVectors", name := "add", desc := "(IIII)I" } : Jvm.MethodName)) ∈ utbl := u_mem (List.mem_of_getElem? (i := 209) (by decide +kernel)) (by decide +kernel)
theorem wd161 : (Jvm.Cond.instanceMethod ({ cls := "ShortVectors", name := "add", desc := "(IIII)I" } : Jvm.MethodName)) ∈ utbl := u_mem (List.mem_of_getElem? (i := 210) (by decide +kernel)) (by decide +kernel)
theorem wd162 : (Jvm.Cond.selects "ShortVectors" ({ cls := "ShortVectors", name := "add", desc := "(IIII)I" } : Jvm.MethodName) ({ cls := "ShortVectors", name := "add", desc := "(IIII)I" } : Jvm.MethodName)) ∈ utbl := u_mem (List.mem_of_getElem? (i := 211) (by decide +kernel)) (by decide +kernel)
theorem wd163 : (Jvm.Cond.code ({ cls := "ShortVectors", name := "add", desc := "(IIII)I" } : Jvm.MethodName) prog_1_method_2_code (5 : Nat) (Option.some Jvm.ClassFile.FieldType.int)) ∈ utbl := u_mem (List.mem_of_getElem? (i := 212) (by decide +kernel)) (by decide +kernel)
theorem wd164 : (Jvm.Cond.methodLink "ShortVectors" (60 : Nat) ({ cls := "ShortVectors", name := "ask", desc := "(IIIII)Z" } : Jvm.MethodName)) ∈ utbl := u_mem (List.mem_of_getElem? (i := 213) (by decide +kernel)) (by decide +kernel)
theorem wd166 : (Jvm.Cond.instanceMethod ({ cls := "ShortVectors", name := "ask", desc := "(IIIII)Z" } : Jvm.MethodName)) ∈ utbl := u_mem (List.mem_of_getElem? (i := 215) (by decide +kernel)) (by decide +kernel)
theorem wd167 : (Jvm.Cond.code ({ cls := "ShortVectors", name := "ask", desc := "(IIIII)Z" } : Jvm.MethodName) prog_1_method_15_code (7 : Nat) (Option.some Jvm.ClassFile.FieldType.boolean)) ∈ utbl := u_mem (List.mem_of_getElem? (i := 216) (by decide +kernel)) (by decide +kernel)
theorem wd168 : (Jvm.Cond.methodLink "ShortVectors" (64 : Nat) ({ cls := "ShortVectors", name := "copy", desc := "([J[J)V" } : Jvm.MethodName)) ∈ utbl := u_mem (List.mem_of_getElem? (i := 217) (by decide +kernel)) (by decide +kernel)
theorem wd169 : (Jvm.Cond.static ({ cls := "ShortVectors", name := "copy", desc := "([J[J)V" } : Jvm.MethodName)) ∈ utbl := u_mem (List.mem_of_getElem? (i := 218) (by decide +kernel)) (by decide +kernel)
theorem wd170 : (Jvm.Cond.code ({ cls := "ShortVectors", name := "copy", desc := "([J[J)V" } : Jvm.MethodName) prog_1_method_20_code (2 : Nat) (Option.none : Option Jvm.ClassFile.FieldType)) ∈ utbl := u_mem (List.mem_of_getElem? (i := 219) (by decide +kernel)) (by decide +kernel)
theorem wd171 : (Jvm.Cond.methodLink "ShortVectors" (148 : Nat) ({ cls := "java/lang/System", name := "arraycopy", desc := "(Ljava/lang/Object;ILjava/lang/Object;II)V" } : Jvm.MethodName)) ∈ utbl := u_mem (List.mem_of_getElem? (i := 220) (by decide +kernel)) (by decide +kernel)
theorem wd172 : (Jvm.Cond.static ({ cls := "java/lang/System", name := "arraycopy", desc := "(Ljava/lang/Object;ILjava/lang/Object;II)V" } : Jvm.MethodName)) ∈ utbl := u_mem (List.mem_of_getElem? (i := 221) (by decide +kernel)) (by decide +kernel)
theorem wd173 : (Jvm.Cond.native ({ cls := "java/lang/System", name := "arraycopy", desc := "(Ljava/lang/Object;ILjava/lang/Object;II)V" } : Jvm.MethodName)) ∈ utbl := u_mem (List.mem_of_getElem? (i := 222) (by decide +kernel)) (by decide +kernel)
theorem wd174 : (Jvm.Cond.methodLink "ShortVectors" (68 : Nat) ({ cls := "ShortVectors$Echelon", name := "include", desc := "([J)V" } : Jvm.MethodName)) ∈ utbl := u_mem (List.mem_of_getElem? (i := 223) (by decide +kernel)) (by decide +kernel)
theorem wd175 : (Jvm.Cond.instanceMethod ({ cls := "ShortVectors$Echelon", name := "include", desc := "([J)V" } : Jvm.MethodName)) ∈ utbl := u_mem (List.mem_of_getElem? (i := 224) (by decide +kernel)) (by decide +kernel)
theorem wd176 : (Jvm.Cond.selects "ShortVectors$Echelon" ({ cls := "ShortVectors$Echelon", name := "include", desc := "([J)V" } : Jvm.MethodName) ({ cls := "ShortVectors$Echelon", name := "include", desc := "([J)V" } : Jvm.MethodName)) ∈ utbl := u_mem (List.mem_of_getElem? (i := 225) (by decide +kernel)) (by decide +kernel)
theorem wd177 : (Jvm.Cond.code ({ cls := "ShortVectors$Echelon", name := "include", desc := "([J)V" } : Jvm.MethodName) prog_5_method_6_code (3 : Nat) (Option.none : Option Jvm.ClassFile.FieldType)) ∈ utbl := u_mem (List.mem_of_getElem? (i := 226) (by decide +kernel)) (by decide +kernel)
theorem wd178 : (Jvm.Cond.methodLinkNest "ShortVectors$Echelon" (30 : Nat) ({ cls := "ShortVectors", name := "copy", desc := "([J[J)V" } : Jvm.MethodName) "ShortVectors") ∈ lw_tbl := List.mem_of_getElem? (i := 227) (by decide +kernel)
theorem wd179 : (Jvm.Cond.methodLink "ShortVectors$Echelon" (34 : Nat) ({ cls := "ShortVectors$Echelon", name := "merge", desc := "([JI)V" } : Jvm.MethodName)) ∈ utbl := u_mem (List.mem_of_getElem? (i := 228) (by decide +kernel)) (by decide +kernel)
theorem wd181 : (Jvm.Cond.instanceMethod ({ cls := "ShortVectors$Echelon", name := "merge", desc := "([JI)V" } : Jvm.MethodName)) ∈ utbl := u_mem (List.mem_of_getElem? (i := 230) (by decide +kernel)) (by decide +kernel)
theorem wd182 : (Jvm.Cond.code ({ cls := "ShortVectors$Echelon", name := "merge", desc := "([JI)V" } : Jvm.MethodName) prog_5_method_7_code (9 : Nat) (Option.none : Option Jvm.ClassFile.FieldType)) ∈ utbl := u_mem (List.mem_of_getElem? (i := 231) (by decide +kernel)) (by decide +kernel)
theorem wd183 : (Jvm.Cond.constant "ShortVectors$Echelon" (42 : Nat) (1000000 : Int32)) ∈ utbl := u_mem (List.mem_of_getElem? (i := 232) (by decide +kernel)) (by decide +kernel)
theorem wd184 : (Jvm.Cond.constantLong "ShortVectors$Echelon" (43 : Nat) (-2 : Int64)) ∈ utbl := u_mem (List.mem_of_getElem? (i := 233) (by decide +kernel)) (by decide +kernel)
theorem wd185 : (Jvm.Cond.methodLinkNest "ShortVectors$Echelon" (45 : Nat) ({ cls := "ShortVectors", name := "addMultiple", desc := "([J[JJ)V" } : Jvm.MethodName) "ShortVectors") ∈ lw_tbl := List.mem_of_getElem? (i := 234) (by decide +kernel)
theorem wd186 : (Jvm.Cond.static ({ cls := "ShortVectors", name := "addMultiple", desc := "([J[JJ)V" } : Jvm.MethodName)) ∈ utbl := u_mem (List.mem_of_getElem? (i := 235) (by decide +kernel)) (by decide +kernel)
theorem wd187 : (Jvm.Cond.code ({ cls := "ShortVectors", name := "addMultiple", desc := "([J[JJ)V" } : Jvm.MethodName) prog_1_method_21_code (5 : Nat) (Option.none : Option Jvm.ClassFile.FieldType)) ∈ utbl := u_mem (List.mem_of_getElem? (i := 236) (by decide +kernel)) (by decide +kernel)
theorem wd188 : (Jvm.Cond.methodLink "ShortVectors$Echelon" (38 : Nat) ({ cls := "ShortVectors$Echelon", name := "shorten", desc := "(I)V" } : Jvm.MethodName)) ∈ utbl := u_mem (List.mem_of_getElem? (i := 237) (by decide +kernel)) (by decide +kernel)
theorem wd190 : (Jvm.Cond.instanceMethod ({ cls := "ShortVectors$Echelon", name := "shorten", desc := "(I)V" } : Jvm.MethodName)) ∈ utbl := u_mem (List.mem_of_getElem? (i := 239) (by decide +kernel)) (by decide +kernel)
theorem wd191 : (Jvm.Cond.code ({ cls := "ShortVectors$Echelon", name := "shorten", desc := "(I)V" } : Jvm.MethodName) prog_5_method_8_code (3 : Nat) (Option.none : Option Jvm.ClassFile.FieldType)) ∈ utbl := u_mem (List.mem_of_getElem? (i := 240) (by decide +kernel)) (by decide +kernel)
theorem wd192 : (Jvm.Cond.methodLink "ShortVectors$Echelon" (26 : Nat) ({ cls := "ShortVectors$Echelon", name := "isHeld", desc := "(I)Z" } : Jvm.MethodName)) ∈ utbl := u_mem (List.mem_of_getElem? (i := 241) (by decide +kernel)) (by decide +kernel)
theorem wd193 : (Jvm.Cond.instanceMethod ({ cls := "ShortVectors$Echelon", name := "isHeld", desc := "(I)Z" } : Jvm.MethodName)) ∈ utbl := u_mem (List.mem_of_getElem? (i := 242) (by decide +kernel)) (by decide +kernel)
theorem wd194 : (Jvm.Cond.selects "ShortVectors$Echelon" ({ cls := "ShortVectors$Echelon", name := "isHeld", desc := "(I)Z" } : Jvm.MethodName) ({ cls := "ShortVectors$Echelon", name := "isHeld", desc := "(I)Z" } : Jvm.MethodName)) ∈ utbl := u_mem (List.mem_of_getElem? (i := 243) (by decide +kernel)) (by decide +kernel)
theorem wd195 : (Jvm.Cond.code ({ cls := "ShortVectors$Echelon", name := "isHeld", desc := "(I)Z" } : Jvm.MethodName) prog_5_method_4_code (2 : Nat) (Option.some Jvm.ClassFile.FieldType.boolean)) ∈ utbl := u_mem (List.mem_of_getElem? (i := 244) (by decide +kernel)) (by decide +kernel)
theorem wd196 : (Jvm.Cond.methodLink "ShortVectors$Echelon" (49 : Nat) ({ cls := "java/lang/Math", name := "floorDiv", desc := "(JJ)J" } : Jvm.MethodName)) ∈ utbl := u_mem (List.mem_of_getElem? (i := 245) (by decide +kernel)) (by decide +kernel)
theorem wd197 : (Jvm.Cond.static ({ cls := "java/lang/Math", name := "floorDiv", desc := "(JJ)J" } : Jvm.MethodName)) ∈ utbl := u_mem (List.mem_of_getElem? (i := 246) (by decide +kernel)) (by decide +kernel)
theorem wd198 : (Jvm.Cond.code ({ cls := "java/lang/Math", name := "floorDiv", desc := "(JJ)J" } : Jvm.MethodName) prog_10_method_49_code (6 : Nat) (Option.some Jvm.ClassFile.FieldType.long)) ∈ utbl := u_mem (List.mem_of_getElem? (i := 247) (by decide +kernel)) (by decide +kernel)
theorem wd199 : (Jvm.Cond.methodLink "ShortVectors" (72 : Nat) ({ cls := "ShortVectors", name := "forget", desc := "()V" } : Jvm.MethodName)) ∈ utbl := u_mem (List.mem_of_getElem? (i := 248) (by decide +kernel)) (by decide +kernel)
theorem wd201 : (Jvm.Cond.instanceMethod ({ cls := "ShortVectors", name := "forget", desc := "()V" } : Jvm.MethodName)) ∈ utbl := u_mem (List.mem_of_getElem? (i := 250) (by decide +kernel)) (by decide +kernel)
theorem wd202 : (Jvm.Cond.code ({ cls := "ShortVectors", name := "forget", desc := "()V" } : Jvm.MethodName) prog_1_method_17_code (1 : Nat) (Option.none : Option Jvm.ClassFile.FieldType)) ∈ utbl := u_mem (List.mem_of_getElem? (i := 251) (by decide +kernel)) (by decide +kernel)
theorem wd203 : (Jvm.Cond.methodLink "ShortVectorsLaw" (18 : Nat) ({ cls := "ShortVectors", name := "drop", desc := "()Z" } : Jvm.MethodName)) ∈ utbl := u_mem (List.mem_of_getElem? (i := 252) (by decide +kernel)) (by decide +kernel)
theorem wd204 : (Jvm.Cond.instanceMethod ({ cls := "ShortVectors", name := "drop", desc := "()Z" } : Jvm.MethodName)) ∈ utbl := u_mem (List.mem_of_getElem? (i := 253) (by decide +kernel)) (by decide +kernel)
theorem wd205 : (Jvm.Cond.selects "ShortVectors" ({ cls := "ShortVectors", name := "drop", desc := "()Z" } : Jvm.MethodName) ({ cls := "ShortVectors", name := "drop", desc := "()Z" } : Jvm.MethodName)) ∈ utbl := u_mem (List.mem_of_getElem? (i := 254) (by decide +kernel)) (by decide +kernel)
theorem wd206 : (Jvm.Cond.code ({ cls := "ShortVectors", name := "drop", desc := "()Z" } : Jvm.MethodName) prog_1_method_3_code (1 : Nat) (Option.some Jvm.ClassFile.FieldType.boolean)) ∈ utbl := u_mem (List.mem_of_getElem? (i := 255) (by decide +kernel)) (by decide +kernel)
theorem wd207 : (Jvm.Cond.methodLink "ShortVectors" (75 : Nat) ({ cls := "ShortVectors", name := "gather", desc := "(LShortVectors$Echelon;I)V" } : Jvm.MethodName)) ∈ utbl := u_mem (List.mem_of_getElem? (i := 256) (by decide +kernel)) (by decide +kernel)
theorem wd209 : (Jvm.Cond.instanceMethod ({ cls := "ShortVectors", name := "gather", desc := "(LShortVectors$Echelon;I)V" } : Jvm.MethodName)) ∈ utbl := u_mem (List.mem_of_getElem? (i := 258) (by decide +kernel)) (by decide +kernel)
theorem wd210 : (Jvm.Cond.code ({ cls := "ShortVectors", name := "gather", desc := "(LShortVectors$Echelon;I)V" } : Jvm.MethodName) prog_1_method_16_code (4 : Nat) (Option.none : Option Jvm.ClassFile.FieldType)) ∈ utbl := u_mem (List.mem_of_getElem? (i := 259) (by decide +kernel)) (by decide +kernel)
theorem wd211 : (Jvm.Cond.methodLink "ShortVectors" (138 : Nat) ({ cls := "ShortVectors$Echelon", name := "clear", desc := "()V" } : Jvm.MethodName)) ∈ utbl := u_mem (List.mem_of_getElem? (i := 260) (by decide +kernel)) (by decide +kernel)
theorem wd212 : (Jvm.Cond.instanceMethod ({ cls := "ShortVectors$Echelon", name := "clear", desc := "()V" } : Jvm.MethodName)) ∈ utbl := u_mem (List.mem_of_getElem? (i := 261) (by decide +kernel)) (by decide +kernel)
theorem wd213 : (Jvm.Cond.selects "ShortVectors$Echelon" ({ cls := "ShortVectors$Echelon", name := "clear", desc := "()V" } : Jvm.MethodName) ({ cls := "ShortVectors$Echelon", name := "clear", desc := "()V" } : Jvm.MethodName)) ∈ utbl := u_mem (List.mem_of_getElem? (i := 262) (by decide +kernel)) (by decide +kernel)
theorem wd214 : (Jvm.Cond.code ({ cls := "ShortVectors$Echelon", name := "clear", desc := "()V" } : Jvm.MethodName) prog_5_method_2_code (2 : Nat) (Option.none : Option Jvm.ClassFile.FieldType)) ∈ utbl := u_mem (List.mem_of_getElem? (i := 263) (by decide +kernel)) (by decide +kernel)
theorem wd215 : (Jvm.Cond.methodLink "ShortVectors$Echelon" (20 : Nat) ({ cls := "java/util/Arrays", name := "fill", desc := "([JJ)V" } : Jvm.MethodName)) ∈ utbl := u_mem (List.mem_of_getElem? (i := 264) (by decide +kernel)) (by decide +kernel)
theorem wd216 : (Jvm.Cond.static ({ cls := "java/util/Arrays", name := "fill", desc := "([JJ)V" } : Jvm.MethodName)) ∈ utbl := u_mem (List.mem_of_getElem? (i := 265) (by decide +kernel)) (by decide +kernel)
theorem wd217 : (Jvm.Cond.code ({ cls := "java/util/Arrays", name := "fill", desc := "([JJ)V" } : Jvm.MethodName) prog_12_method_101_code (5 : Nat) (Option.none : Option Jvm.ClassFile.FieldType)) ∈ utbl := u_mem (List.mem_of_getElem? (i := 266) (by decide +kernel)) (by decide +kernel)
theorem wd218 : (Jvm.Cond.methodLink "ShortVectorsLaw" (23 : Nat) ({ cls := "ShortVectors", name := "generators", desc := "()I" } : Jvm.MethodName)) ∈ utbl := u_mem (List.mem_of_getElem? (i := 267) (by decide +kernel)) (by decide +kernel)
theorem wd219 : (Jvm.Cond.instanceMethod ({ cls := "ShortVectors", name := "generators", desc := "()I" } : Jvm.MethodName)) ∈ utbl := u_mem (List.mem_of_getElem? (i := 268) (by decide +kernel)) (by decide +kernel)
theorem wd220 : (Jvm.Cond.selects "ShortVectors" ({ cls := "ShortVectors", name := "generators", desc := "()I" } : Jvm.MethodName) ({ cls := "ShortVectors", name := "generators", desc := "()I" } : Jvm.MethodName)) ∈ utbl := u_mem (List.mem_of_getElem? (i := 269) (by decide +kernel)) (by decide +kernel)
theorem wd221 : (Jvm.Cond.code ({ cls := "ShortVectors", name := "generators", desc := "()I" } : Jvm.MethodName) prog_1_method_4_code (1 : Nat) (Option.some Jvm.ClassFile.FieldType.int)) ∈ utbl := u_mem (List.mem_of_getElem? (i := 270) (by decide +kernel)) (by decide +kernel)
theorem wd222 : (Jvm.Cond.methodLink "ShortVectorsLaw" (28 : Nat) ({ cls := "ShortVectors", name := "rank", desc := "()I" } : Jvm.MethodName)) ∈ utbl := u_mem (List.mem_of_getElem? (i := 271) (by decide +kernel)) (by decide +kernel)
theorem wd223 : (Jvm.Cond.instanceMethod ({ cls := "ShortVectors", name := "rank", desc := "()I" } : Jvm.MethodName)) ∈ utbl := u_mem (List.mem_of_getElem? (i := 272) (by decide +kernel)) (by decide +kernel)
theorem wd224 : (Jvm.Cond.selects "ShortVectors" ({ cls := "ShortVectors", name := "rank", desc := "()I" } : Jvm.MethodName) ({ cls := "ShortVectors", name := "rank", desc := "()I" } : Jvm.MethodName)) ∈ utbl := u_mem (List.mem_of_getElem? (i := 273) (by decide +kernel)) (by decide +kernel)
theorem wd225 : (Jvm.Cond.code ({ cls := "ShortVectors", name := "rank", desc := "()I" } : Jvm.MethodName) prog_1_method_5_code (1 : Nat) (Option.some Jvm.ClassFile.FieldType.int)) ∈ utbl := u_mem (List.mem_of_getElem? (i := 274) (by decide +kernel)) (by decide +kernel)
theorem wd226 : (Jvm.Cond.methodLink "ShortVectors" (79 : Nat) ({ cls := "ShortVectors$Echelon", name := "size", desc := "()I" } : Jvm.MethodName)) ∈ utbl := u_mem (List.mem_of_getElem? (i := 275) (by decide +kernel)) (by decide +kernel)
theorem wd227 : (Jvm.Cond.instanceMethod ({ cls := "ShortVectors$Echelon", name := "size", desc := "()I" } : Jvm.MethodName)) ∈ utbl := u_mem (List.mem_of_getElem? (i := 276) (by decide +kernel)) (by decide +kernel)
theorem wd228 : (Jvm.Cond.selects "ShortVectors$Echelon" ({ cls := "ShortVectors$Echelon", name := "size", desc := "()I" } : Jvm.MethodName) ({ cls := "ShortVectors$Echelon", name := "size", desc := "()I" } : Jvm.MethodName)) ∈ utbl := u_mem (List.mem_of_getElem? (i := 277) (by decide +kernel)) (by decide +kernel)
theorem wd229 : (Jvm.Cond.code ({ cls := "ShortVectors$Echelon", name := "size", desc := "()I" } : Jvm.MethodName) prog_5_method_3_code (3 : Nat) (Option.some Jvm.ClassFile.FieldType.int)) ∈ utbl := u_mem (List.mem_of_getElem? (i := 278) (by decide +kernel)) (by decide +kernel)
theorem wd230 : (Jvm.Cond.methodLink "ShortVectorsLaw" (32 : Nat) ({ cls := "ShortVectors", name := "volume", desc := "()J" } : Jvm.MethodName)) ∈ utbl := u_mem (List.mem_of_getElem? (i := 279) (by decide +kernel)) (by decide +kernel)
theorem wd231 : (Jvm.Cond.instanceMethod ({ cls := "ShortVectors", name := "volume", desc := "()J" } : Jvm.MethodName)) ∈ utbl := u_mem (List.mem_of_getElem? (i := 280) (by decide +kernel)) (by decide +kernel)
theorem wd232 : (Jvm.Cond.selects "ShortVectors" ({ cls := "ShortVectors", name := "volume", desc := "()J" } : Jvm.MethodName) ({ cls := "ShortVectors", name := "volume", desc := "()J" } : Jvm.MethodName)) ∈ utbl := u_mem (List.mem_of_getElem? (i := 281) (by decide +kernel)) (by decide +kernel)
theorem wd233 : (Jvm.Cond.code ({ cls := "ShortVectors", name := "volume", desc := "()J" } : Jvm.MethodName) prog_1_method_6_code (1 : Nat) (Option.some Jvm.ClassFile.FieldType.long)) ∈ utbl := u_mem (List.mem_of_getElem? (i := 282) (by decide +kernel)) (by decide +kernel)
theorem wd234 : (Jvm.Cond.methodLink "ShortVectors" (83 : Nat) ({ cls := "ShortVectors", name := "readyBasis", desc := "()LShortVectors$Basis;" } : Jvm.MethodName)) ∈ utbl := u_mem (List.mem_of_getElem? (i := 283) (by decide +kernel)) (by decide +kernel)
theorem wd236 : (Jvm.Cond.instanceMethod ({ cls := "ShortVectors", name := "readyBasis", desc := "()LShortVectors$Basis;" } : Jvm.MethodName)) ∈ utbl := u_mem (List.mem_of_getElem? (i := 285) (by decide +kernel)) (by decide +kernel)
theorem wd237 : (Jvm.Cond.code ({ cls := "ShortVectors", name := "readyBasis", desc := "()LShortVectors$Basis;" } : Jvm.MethodName) prog_1_method_18_code (1 : Nat) (Option.some (Jvm.ClassFile.FieldType.object "ShortVectors$Basis"))) ∈ utbl := u_mem (List.mem_of_getElem? (i := 286) (by decide +kernel)) (by decide +kernel)
theorem wd238 : (Jvm.Cond.methodLink "ShortVectors" (144 : Nat) ({ cls := "ShortVectors$Basis", name := "take", desc := "(LShortVectors$Echelon;)V" } : Jvm.MethodName)) ∈ utbl := u_mem (List.mem_of_getElem? (i := 287) (by decide +kernel)) (by decide +kernel)
theorem wd239 : (Jvm.Cond.instanceMethod ({ cls := "ShortVectors$Basis", name := "take", desc := "(LShortVectors$Echelon;)V" } : Jvm.MethodName)) ∈ utbl := u_mem (List.mem_of_getElem? (i := 288) (by decide +kernel)) (by decide +kernel)
theorem wd240 : (Jvm.Cond.selects "ShortVectors$Basis" ({ cls := "ShortVectors$Basis", name := "take", desc := "(LShortVectors$Echelon;)V" } : Jvm.MethodName) ({ cls := "ShortVectors$Basis", name := "take", desc := "(LShortVectors$Echelon;)V" } : Jvm.MethodName)) ∈ utbl := u_mem (List.mem_of_getElem? (i := 289) (by decide +kernel)) (by decide +kernel)
theorem wd241 : (Jvm.Cond.code ({ cls := "ShortVectors$Basis", name := "take", desc := "(LShortVectors$Echelon;)V" } : Jvm.MethodName) prog_2_method_2_code (3 : Nat) (Option.none : Option Jvm.ClassFile.FieldType)) ∈ utbl := u_mem (List.mem_of_getElem? (i := 290) (by decide +kernel)) (by decide +kernel)
theorem wd242 : (Jvm.Cond.methodLink "ShortVectors$Basis" (39 : Nat) ({ cls := "ShortVectors$Echelon", name := "isHeld", desc := "(I)Z" } : Jvm.MethodName)) ∈ utbl := u_mem (List.mem_of_getElem? (i := 291) (by decide +kernel)) (by decide +kernel)
theorem wd243 : (Jvm.Cond.methodLink "ShortVectors$Basis" (45 : Nat) ({ cls := "ShortVectors$Echelon", name := "row", desc := "(I)[J" } : Jvm.MethodName)) ∈ utbl := u_mem (List.mem_of_getElem? (i := 292) (by decide +kernel)) (by decide +kernel)
theorem wd244 : (Jvm.Cond.instanceMethod ({ cls := "ShortVectors$Echelon", name := "row", desc := "(I)[J" } : Jvm.MethodName)) ∈ utbl := u_mem (List.mem_of_getElem? (i := 293) (by decide +kernel)) (by decide +kernel)
theorem wd245 : (Jvm.Cond.selects "ShortVectors$Echelon" ({ cls := "ShortVectors$Echelon", name := "row", desc := "(I)[J" } : Jvm.MethodName) ({ cls := "ShortVectors$Echelon", name := "row", desc := "(I)[J" } : Jvm.MethodName)) ∈ utbl := u_mem (List.mem_of_getElem? (i := 294) (by decide +kernel)) (by decide +kernel)
theorem wd246 : (Jvm.Cond.code ({ cls := "ShortVectors$Echelon", name := "row", desc := "(I)[J" } : Jvm.MethodName) prog_5_method_5_code (2 : Nat) (Option.some (Jvm.ClassFile.FieldType.array Jvm.ClassFile.FieldType.long))) ∈ utbl := u_mem (List.mem_of_getElem? (i := 295) (by decide +kernel)) (by decide +kernel)
theorem wd247 : (Jvm.Cond.methodLinkNest "ShortVectors$Basis" (49 : Nat) ({ cls := "ShortVectors", name := "copy", desc := "([J[J)V" } : Jvm.MethodName) "ShortVectors") ∈ lw_tbl := List.mem_of_getElem? (i := 296) (by decide +kernel)
theorem wd248 : (Jvm.Cond.methodLink "ShortVectors$Basis" (53 : Nat) ({ cls := "ShortVectors$Basis", name := "reduce", desc := "()V" } : Jvm.MethodName)) ∈ utbl := u_mem (List.mem_of_getElem? (i := 297) (by decide +kernel)) (by decide +kernel)
theorem wd250 : (Jvm.Cond.instanceMethod ({ cls := "ShortVectors$Basis", name := "reduce", desc := "()V" } : Jvm.MethodName)) ∈ utbl := u_mem (List.mem_of_getElem? (i := 299) (by decide +kernel)) (by decide +kernel)
theorem wd251 : (Jvm.Cond.code ({ cls := "ShortVectors$Basis", name := "reduce", desc := "()V" } : Jvm.MethodName) prog_2_method_5_code (3 : Nat) (Option.none : Option Jvm.ClassFile.FieldType)) ∈ utbl := u_mem (List.mem_of_getElem? (i := 300) (by decide +kernel)) (by decide +kernel)
theorem wd252 : (Jvm.Cond.constant "ShortVectors$Basis" (71 : Nat) (1000000 : Int32)) ∈ utbl := u_mem (List.mem_of_getElem? (i := 301) (by decide +kernel)) (by decide +kernel)
theorem wd253 : (Jvm.Cond.methodLink "ShortVectors$Basis" (72 : Nat) ({ cls := "ShortVectors$Basis", name := "shortenByPairs", desc := "()Z" } : Jvm.MethodName)) ∈ utbl := u_mem (List.mem_of_getElem? (i := 302) (by decide +kernel)) (by decide +kernel)
theorem wd255 : (Jvm.Cond.instanceMethod ({ cls := "ShortVectors$Basis", name := "shortenByPairs", desc := "()Z" } : Jvm.MethodName)) ∈ utbl := u_mem (List.mem_of_getElem? (i := 304) (by decide +kernel)) (by decide +kernel)
theorem wd256 : (Jvm.Cond.code ({ cls := "ShortVectors$Basis", name := "shortenByPairs", desc := "()Z" } : Jvm.MethodName) prog_2_method_6_code (4 : Nat) (Option.some Jvm.ClassFile.FieldType.boolean)) ∈ utbl := u_mem (List.mem_of_getElem? (i := 305) (by decide +kernel)) (by decide +kernel)
theorem wd257 : (Jvm.Cond.methodLink "ShortVectors$Basis" (79 : Nat) ({ cls := "ShortVectors$Basis", name := "shortenBy", desc := "(II)Z" } : Jvm.MethodName)) ∈ utbl := u_mem (List.mem_of_getElem? (i := 306) (by decide +kernel)) (by decide +kernel)
theorem wd259 : (Jvm.Cond.instanceMethod ({ cls := "ShortVectors$Basis", name := "shortenBy", desc := "(II)Z" } : Jvm.MethodName)) ∈ utbl := u_mem (List.mem_of_getElem? (i := 308) (by decide +kernel)) (by decide +kernel)
theorem wd260 : (Jvm.Cond.code ({ cls := "ShortVectors$Basis", name := "shortenBy", desc := "(II)Z" } : Jvm.MethodName) prog_2_method_7_code (7 : Nat) (Option.some Jvm.ClassFile.FieldType.boolean)) ∈ utbl := u_mem (List.mem_of_getElem? (i := 309) (by decide +kernel)) (by decide +kernel)
theorem wd261 : (Jvm.Cond.methodLinkNest "ShortVectors$Basis" (63 : Nat) ({ cls := "ShortVectors", name := "product", desc := "([J[J)J" } : Jvm.MethodName) "ShortVectors") ∈ lw_tbl := List.mem_of_getElem? (i := 310) (by decide +kernel)
theorem wd262 : (Jvm.Cond.static ({ cls := "ShortVectors", name := "product", desc := "([J[J)J" } : Jvm.MethodName)) ∈ utbl := u_mem (List.mem_of_getElem? (i := 311) (by decide +kernel)) (by decide +kernel)
theorem wd263 : (Jvm.Cond.code ({ cls := "ShortVectors", name := "product", desc := "([J[J)J" } : Jvm.MethodName) prog_1_method_22_code (5 : Nat) (Option.some Jvm.ClassFile.FieldType.long)) ∈ utbl := u_mem (List.mem_of_getElem? (i := 312) (by decide +kernel)) (by decide +kernel)
theorem wd264 : (Jvm.Cond.constantLong "ShortVectors$Basis" (83 : Nat) (2 : Int64)) ∈ utbl := u_mem (List.mem_of_getElem? (i := 313) (by decide +kernel)) (by decide +kernel)
theorem wd265 : (Jvm.Cond.methodLink "ShortVectors$Basis" (85 : Nat) ({ cls := "java/lang/Math", name := "abs", desc := "(J)J" } : Jvm.MethodName)) ∈ utbl := u_mem (List.mem_of_getElem? (i := 314) (by decide +kernel)) (by decide +kernel)
theorem wd266 : (Jvm.Cond.static ({ cls := "java/lang/Math", name := "abs", desc := "(J)J" } : Jvm.MethodName)) ∈ utbl := u_mem (List.mem_of_getElem? (i := 315) (by decide +kernel)) (by decide +kernel)
theorem wd267 : (Jvm.Cond.code ({ cls := "java/lang/Math", name := "abs", desc := "(J)J" } : Jvm.MethodName) prog_10_method_61_code (2 : Nat) (Option.some Jvm.ClassFile.FieldType.long)) ∈ utbl := u_mem (List.mem_of_getElem? (i := 316) (by decide +kernel)) (by decide +kernel)
theorem wd268 : (Jvm.Cond.methodLinkNest "ShortVectors$Basis" (91 : Nat) ({ cls := "ShortVectors", name := "nearestQuotient", desc := "(JJ)J" } : Jvm.MethodName) "ShortVectors") ∈ lw_tbl := List.mem_of_getElem? (i := 317) (by decide +kernel)
theorem wd269 : (Jvm.Cond.static ({ cls := "ShortVectors", name := "nearestQuotient", desc := "(JJ)J" } : Jvm.MethodName)) ∈ utbl := u_mem (List.mem_of_getElem? (i := 318) (by decide +kernel)) (by decide +kernel)
theorem wd270 : (Jvm.Cond.code ({ cls := "ShortVectors", name := "nearestQuotient", desc := "(JJ)J" } : Jvm.MethodName) prog_1_method_25_code (4 : Nat) (Option.some Jvm.ClassFile.FieldType.long)) ∈ utbl := u_mem (List.mem_of_getElem? (i := 319) (by decide +kernel)) (by decide +kernel)
theorem wd271 : (Jvm.Cond.constantLong "ShortVectors" (161 : Nat) (2 : Int64)) ∈ utbl := u_mem (List.mem_of_getElem? (i := 320) (by decide +kernel)) (by decide +kernel)
theorem wd272 : (Jvm.Cond.methodLink "ShortVectors" (163 : Nat) ({ cls := "java/lang/Math", name := "floorDiv", desc := "(JJ)J" } : Jvm.MethodName)) ∈ utbl := u_mem (List.mem_of_getElem? (i := 321) (by decide +kernel)) (by decide +kernel)
theorem wd273 : (Jvm.Cond.methodLinkNest "ShortVectors$Basis" (95 : Nat) ({ cls := "ShortVectors", name := "addMultiple", desc := "([J[JJ)V" } : Jvm.MethodName) "ShortVectors") ∈ lw_tbl := List.mem_of_getElem? (i := 322) (by decide +kernel)
theorem wd274 : (Jvm.Cond.methodLink "ShortVectors$Basis" (76 : Nat) ({ cls := "ShortVectors$Basis", name := "shortenBySums", desc := "()Z" } : Jvm.MethodName)) ∈ utbl := u_mem (List.mem_of_getElem? (i := 323) (by decide +kernel)) (by decide +kernel)
theorem wd276 : (Jvm.Cond.instanceMethod ({ cls := "ShortVectors$Basis", name := "shortenBySums", desc := "()Z" } : Jvm.MethodName)) ∈ utbl := u_mem (List.mem_of_getElem? (i := 325) (by decide +kernel)) (by decide +kernel)
theorem wd277 : (Jvm.Cond.code ({ cls := "ShortVectors$Basis", name := "shortenBySums", desc := "()Z" } : Jvm.MethodName) prog_2_method_8_code (5 : Nat) (Option.some Jvm.ClassFile.FieldType.boolean)) ∈ utbl := u_mem (List.mem_of_getElem? (i := 326) (by decide +kernel)) (by decide +kernel)
theorem wd278 : (Jvm.Cond.methodLink "ShortVectors$Basis" (99 : Nat) ({ cls := "ShortVectors$Basis", name := "shortenByChoice", desc := "(II)Z" } : Jvm.MethodName)) ∈ utbl := u_mem (List.mem_of_getElem? (i := 327) (by decide +kernel)) (by decide +kernel)
theorem wd280 : (Jvm.Cond.instanceMethod ({ cls := "ShortVectors$Basis", name := "shortenByChoice", desc := "(II)Z" } : Jvm.MethodName)) ∈ utbl := u_mem (List.mem_of_getElem? (i := 329) (by decide +kernel)) (by decide +kernel)
theorem wd281 : (Jvm.Cond.code ({ cls := "ShortVectors$Basis", name := "shortenByChoice", desc := "(II)Z" } : Jvm.MethodName) prog_2_method_9_code (5 : Nat) (Option.some Jvm.ClassFile.FieldType.boolean)) ∈ utbl := u_mem (List.mem_of_getElem? (i := 330) (by decide +kernel)) (by decide +kernel)
theorem wd282 : (Jvm.Cond.methodLink "ShortVectors$Basis" (56 : Nat) ({ cls := "ShortVectors$Basis", name := "sort", desc := "()V" } : Jvm.MethodName)) ∈ utbl := u_mem (List.mem_of_getElem? (i := 331) (by decide +kernel)) (by decide +kernel)
theorem wd284 : (Jvm.Cond.instanceMethod ({ cls := "ShortVectors$Basis", name := "sort", desc := "()V" } : Jvm.MethodName)) ∈ utbl := u_mem (List.mem_of_getElem? (i := 333) (by decide +kernel)) (by decide +kernel)
theorem wd285 : (Jvm.Cond.code ({ cls := "ShortVectors$Basis", name := "sort", desc := "()V" } : Jvm.MethodName) prog_2_method_10_code (3 : Nat) (Option.none : Option Jvm.ClassFile.FieldType)) ∈ utbl := u_mem (List.mem_of_getElem? (i := 334) (by decide +kernel)) (by decide +kernel)
theorem wd286 : (Jvm.Cond.methodLink "ShortVectors$Basis" (67 : Nat) ({ cls := "ShortVectors$Basis", name := "squareOf", desc := "(I)J" } : Jvm.MethodName)) ∈ utbl := u_mem (List.mem_of_getElem? (i := 335) (by decide +kernel)) (by decide +kernel)
theorem wd287 : (Jvm.Cond.instanceMethod ({ cls := "ShortVectors$Basis", name := "squareOf", desc := "(I)J" } : Jvm.MethodName)) ∈ utbl := u_mem (List.mem_of_getElem? (i := 336) (by decide +kernel)) (by decide +kernel)
theorem wd288 : (Jvm.Cond.selects "ShortVectors$Basis" ({ cls := "ShortVectors$Basis", name := "squareOf", desc := "(I)J" } : Jvm.MethodName) ({ cls := "ShortVectors$Basis", name := "squareOf", desc := "(I)J" } : Jvm.MethodName)) ∈ utbl := u_mem (List.mem_of_getElem? (i := 337) (by decide +kernel)) (by decide +kernel)
theorem wd289 : (Jvm.Cond.code ({ cls := "ShortVectors$Basis", name := "squareOf", desc := "(I)J" } : Jvm.MethodName) prog_2_method_3_code (2 : Nat) (Option.some Jvm.ClassFile.FieldType.long)) ∈ utbl := u_mem (List.mem_of_getElem? (i := 338) (by decide +kernel)) (by decide +kernel)
theorem wd290 : (Jvm.Cond.methodLink "ShortVectors$Basis" (59 : Nat) ({ cls := "ShortVectors$Basis", name := "direct", desc := "(I)V" } : Jvm.MethodName)) ∈ utbl := u_mem (List.mem_of_getElem? (i := 339) (by decide +kernel)) (by decide +kernel)
theorem wd292 : (Jvm.Cond.instanceMethod ({ cls := "ShortVectors$Basis", name := "direct", desc := "(I)V" } : Jvm.MethodName)) ∈ utbl := u_mem (List.mem_of_getElem? (i := 341) (by decide +kernel)) (by decide +kernel)
theorem wd293 : (Jvm.Cond.code ({ cls := "ShortVectors$Basis", name := "direct", desc := "(I)V" } : Jvm.MethodName) prog_2_method_11_code (4 : Nat) (Option.none : Option Jvm.ClassFile.FieldType)) ∈ utbl := u_mem (List.mem_of_getElem? (i := 342) (by decide +kernel)) (by decide +kernel)
theorem wd294 : (Jvm.Cond.methodLink "ShortVectors$Basis" (102 : Nat) ({ cls := "ShortVectors$Basis", name := "turnAway", desc := "([J[JJ)V" } : Jvm.MethodName)) ∈ utbl := u_mem (List.mem_of_getElem? (i := 343) (by decide +kernel)) (by decide +kernel)
theorem wd295 : (Jvm.Cond.static ({ cls := "ShortVectors$Basis", name := "turnAway", desc := "([J[JJ)V" } : Jvm.MethodName)) ∈ utbl := u_mem (List.mem_of_getElem? (i := 344) (by decide +kernel)) (by decide +kernel)
theorem wd296 : (Jvm.Cond.code ({ cls := "ShortVectors$Basis", name := "turnAway", desc := "([J[JJ)V" } : Jvm.MethodName) prog_2_method_12_code (11 : Nat) (Option.none : Option Jvm.ClassFile.FieldType)) ∈ utbl := u_mem (List.mem_of_getElem? (i := 345) (by decide +kernel)) (by decide +kernel)
theorem wd297 : (Jvm.Cond.methodLinkNest "ShortVectors$Basis" (108 : Nat) ({ cls := "ShortVectors", name := "commonDivisor", desc := "(JJ)J" } : Jvm.MethodName) "ShortVectors") ∈ lw_tbl := List.mem_of_getElem? (i := 346) (by decide +kernel)
theorem wd298 : (Jvm.Cond.static ({ cls := "ShortVectors", name := "commonDivisor", desc := "(JJ)J" } : Jvm.MethodName)) ∈ utbl := u_mem (List.mem_of_getElem? (i := 347) (by decide +kernel)) (by decide +kernel)
theorem wd299 : (Jvm.Cond.code ({ cls := "ShortVectors", name := "commonDivisor", desc := "(JJ)J" } : Jvm.MethodName) prog_1_method_24_code (11 : Nat) (Option.some Jvm.ClassFile.FieldType.long)) ∈ utbl := u_mem (List.mem_of_getElem? (i := 348) (by decide +kernel)) (by decide +kernel)
theorem wd300 : (Jvm.Cond.methodLink "ShortVectors" (154 : Nat) ({ cls := "java/lang/Math", name := "abs", desc := "(J)J" } : Jvm.MethodName)) ∈ utbl := u_mem (List.mem_of_getElem? (i := 349) (by decide +kernel)) (by decide +kernel)
theorem wd301 : (Jvm.Cond.constant "ShortVectors" (160 : Nat) (1000000 : Int32)) ∈ utbl := u_mem (List.mem_of_getElem? (i := 350) (by decide +kernel)) (by decide +kernel)
theorem wd302 : (Jvm.Cond.methodLink "ShortVectors$Basis" (105 : Nat) ({ cls := "java/lang/Math", name := "max", desc := "(JJ)J" } : Jvm.MethodName)) ∈ utbl := u_mem (List.mem_of_getElem? (i := 351) (by decide +kernel)) (by decide +kernel)
theorem wd303 : (Jvm.Cond.static ({ cls := "java/lang/Math", name := "max", desc := "(JJ)J" } : Jvm.MethodName)) ∈ utbl := u_mem (List.mem_of_getElem? (i := 352) (by decide +kernel)) (by decide +kernel)
theorem wd304 : (Jvm.Cond.code ({ cls := "java/lang/Math", name := "max", desc := "(JJ)J" } : Jvm.MethodName) prog_10_method_66_code (4 : Nat) (Option.some Jvm.ClassFile.FieldType.long)) ∈ utbl := u_mem (List.mem_of_getElem? (i := 353) (by decide +kernel)) (by decide +kernel)
theorem wd305 : (Jvm.Cond.methodLink "ShortVectors" (87 : Nat) ({ cls := "ShortVectors$Basis", name := "volumeSquared", desc := "()J" } : Jvm.MethodName)) ∈ utbl := u_mem (List.mem_of_getElem? (i := 354) (by decide +kernel)) (by decide +kernel)
theorem wd306 : (Jvm.Cond.instanceMethod ({ cls := "ShortVectors$Basis", name := "volumeSquared", desc := "()J" } : Jvm.MethodName)) ∈ utbl := u_mem (List.mem_of_getElem? (i := 355) (by decide +kernel)) (by decide +kernel)
theorem wd307 : (Jvm.Cond.selects "ShortVectors$Basis" ({ cls := "ShortVectors$Basis", name := "volumeSquared", desc := "()J" } : Jvm.MethodName) ({ cls := "ShortVectors$Basis", name := "volumeSquared", desc := "()J" } : Jvm.MethodName)) ∈ utbl := u_mem (List.mem_of_getElem? (i := 356) (by decide +kernel)) (by decide +kernel)
theorem wd308 : (Jvm.Cond.code ({ cls := "ShortVectors$Basis", name := "volumeSquared", desc := "()J" } : Jvm.MethodName) prog_2_method_13_code (4 : Nat) (Option.some Jvm.ClassFile.FieldType.long)) ∈ utbl := u_mem (List.mem_of_getElem? (i := 357) (by decide +kernel)) (by decide +kernel)
theorem wd309 : (Jvm.Cond.methodLink "ShortVectors$Basis" (111 : Nat) ({ cls := "ShortVectors$Basis", name := "eliminate", desc := "(IJ)V" } : Jvm.MethodName)) ∈ utbl := u_mem (List.mem_of_getElem? (i := 358) (by decide +kernel)) (by decide +kernel)
theorem wd311 : (Jvm.Cond.instanceMethod ({ cls := "ShortVectors$Basis", name := "eliminate", desc := "(IJ)V" } : Jvm.MethodName)) ∈ utbl := u_mem (List.mem_of_getElem? (i := 360) (by decide +kernel)) (by decide +kernel)
theorem wd312 : (Jvm.Cond.code ({ cls := "ShortVectors$Basis", name := "eliminate", desc := "(IJ)V" } : Jvm.MethodName) prog_2_method_14_code (8 : Nat) (Option.none : Option Jvm.ClassFile.FieldType)) ∈ utbl := u_mem (List.mem_of_getElem? (i := 361) (by decide +kernel)) (by decide +kernel)
theorem wd313 : (Jvm.Cond.methodLink "ShortVectorsLaw" (37 : Nat) ({ cls := "ShortVectors", name := "spare", desc := "(I)Z" } : Jvm.MethodName)) ∈ utbl := u_mem (List.mem_of_getElem? (i := 362) (by decide +kernel)) (by decide +kernel)
theorem wd314 : (Jvm.Cond.instanceMethod ({ cls := "ShortVectors", name := "spare", desc := "(I)Z" } : Jvm.MethodName)) ∈ utbl := u_mem (List.mem_of_getElem? (i := 363) (by decide +kernel)) (by decide +kernel)
theorem wd315 : (Jvm.Cond.selects "ShortVectors" ({ cls := "ShortVectors", name := "spare", desc := "(I)Z" } : Jvm.MethodName) ({ cls := "ShortVectors", name := "spare", desc := "(I)Z" } : Jvm.MethodName)) ∈ utbl := u_mem (List.mem_of_getElem? (i := 364) (by decide +kernel)) (by decide +kernel)
theorem wd316 : (Jvm.Cond.code ({ cls := "ShortVectors", name := "spare", desc := "(I)Z" } : Jvm.MethodName) prog_1_method_7_code (2 : Nat) (Option.some Jvm.ClassFile.FieldType.boolean)) ∈ utbl := u_mem (List.mem_of_getElem? (i := 365) (by decide +kernel)) (by decide +kernel)
theorem wd317 : (Jvm.Cond.methodLink "ShortVectors" (91 : Nat) ({ cls := "ShortVectors$Echelon", name := "holds", desc := "([J)Z" } : Jvm.MethodName)) ∈ utbl := u_mem (List.mem_of_getElem? (i := 366) (by decide +kernel)) (by decide +kernel)
theorem wd318 : (Jvm.Cond.instanceMethod ({ cls := "ShortVectors$Echelon", name := "holds", desc := "([J)Z" } : Jvm.MethodName)) ∈ utbl := u_mem (List.mem_of_getElem? (i := 367) (by decide +kernel)) (by decide +kernel)
theorem wd319 : (Jvm.Cond.selects "ShortVectors$Echelon" ({ cls := "ShortVectors$Echelon", name := "holds", desc := "([J)Z" } : Jvm.MethodName) ({ cls := "ShortVectors$Echelon", name := "holds", desc := "([J)Z" } : Jvm.MethodName)) ∈ utbl := u_mem (List.mem_of_getElem? (i := 368) (by decide +kernel)) (by decide +kernel)
theorem wd320 : (Jvm.Cond.code ({ cls := "ShortVectors$Echelon", name := "holds", desc := "([J)Z" } : Jvm.MethodName) prog_5_method_9_code (2 : Nat) (Option.some Jvm.ClassFile.FieldType.boolean)) ∈ utbl := u_mem (List.mem_of_getElem? (i := 369) (by decide +kernel)) (by decide +kernel)
theorem wd321 : (Jvm.Cond.methodLink "ShortVectors$Echelon" (55 : Nat) ({ cls := "ShortVectors$Echelon", name := "leastMultiplier", desc := "([J)J" } : Jvm.MethodName)) ∈ utbl := u_mem (List.mem_of_getElem? (i := 370) (by decide +kernel)) (by decide +kernel)
theorem wd322 : (Jvm.Cond.instanceMethod ({ cls := "ShortVectors$Echelon", name := "leastMultiplier", desc := "([J)J" } : Jvm.MethodName)) ∈ utbl := u_mem (List.mem_of_getElem? (i := 371) (by decide +kernel)) (by decide +kernel)
theorem wd323 : (Jvm.Cond.selects "ShortVectors$Echelon" ({ cls := "ShortVectors$Echelon", name := "leastMultiplier", desc := "([J)J" } : Jvm.MethodName) ({ cls := "ShortVectors$Echelon", name := "leastMultiplier", desc := "([J)J" } : Jvm.MethodName)) ∈ utbl := u_mem (List.mem_of_getElem? (i := 372) (by decide +kernel)) (by decide +kernel)
theorem wd324 : (Jvm.Cond.code ({ cls := "ShortVectors$Echelon", name := "leastMultiplier", desc := "([J)J" } : Jvm.MethodName) prog_5_method_10_code (9 : Nat) (Option.some Jvm.ClassFile.FieldType.long)) ∈ utbl := u_mem (List.mem_of_getElem? (i := 373) (by decide +kernel)) (by decide +kernel)
theorem wd325 : (Jvm.Cond.methodLinkNest "ShortVectors$Echelon" (59 : Nat) ({ cls := "ShortVectors", name := "commonDivisor", desc := "(JJ)J" } : Jvm.MethodName) "ShortVectors") ∈ lw_tbl := List.mem_of_getElem? (i := 374) (by decide +kernel)
theorem wd326 : (Jvm.Cond.methodLink "ShortVectorsLaw" (42 : Nat) ({ cls := "ShortVectors", name := "has", desc := "(IIII)Z" } : Jvm.MethodName)) ∈ utbl := u_mem (List.mem_of_getElem? (i := 375) (by decide +kernel)) (by decide +kernel)
theorem wd327 : (Jvm.Cond.instanceMethod ({ cls := "ShortVectors", name := "has", desc := "(IIII)Z" } : Jvm.MethodName)) ∈ utbl := u_mem (List.mem_of_getElem? (i := 376) (by decide +kernel)) (by decide +kernel)
theorem wd328 : (Jvm.Cond.selects "ShortVectors" ({ cls := "ShortVectors", name := "has", desc := "(IIII)Z" } : Jvm.MethodName) ({ cls := "ShortVectors", name := "has", desc := "(IIII)Z" } : Jvm.MethodName)) ∈ utbl := u_mem (List.mem_of_getElem? (i := 377) (by decide +kernel)) (by decide +kernel)
theorem wd329 : (Jvm.Cond.code ({ cls := "ShortVectors", name := "has", desc := "(IIII)Z" } : Jvm.MethodName) prog_1_method_8_code (5 : Nat) (Option.some Jvm.ClassFile.FieldType.boolean)) ∈ utbl := u_mem (List.mem_of_getElem? (i := 378) (by decide +kernel)) (by decide +kernel)
theorem wd330 : (Jvm.Cond.methodLink "ShortVectorsLaw" (47 : Nat) ({ cls := "ShortVectors", name := "order", desc := "(IIII)J" } : Jvm.MethodName)) ∈ utbl := u_mem (List.mem_of_getElem? (i := 379) (by decide +kernel)) (by decide +kernel)
theorem wd331 : (Jvm.Cond.instanceMethod ({ cls := "ShortVectors", name := "order", desc := "(IIII)J" } : Jvm.MethodName)) ∈ utbl := u_mem (List.mem_of_getElem? (i := 380) (by decide +kernel)) (by decide +kernel)
theorem wd332 : (Jvm.Cond.selects "ShortVectors" ({ cls := "ShortVectors", name := "order", desc := "(IIII)J" } : Jvm.MethodName) ({ cls := "ShortVectors", name := "order", desc := "(IIII)J" } : Jvm.MethodName)) ∈ utbl := u_mem (List.mem_of_getElem? (i := 381) (by decide +kernel)) (by decide +kernel)
theorem wd333 : (Jvm.Cond.code ({ cls := "ShortVectors", name := "order", desc := "(IIII)J" } : Jvm.MethodName) prog_1_method_9_code (5 : Nat) (Option.some Jvm.ClassFile.FieldType.long)) ∈ utbl := u_mem (List.mem_of_getElem? (i := 382) (by decide +kernel)) (by decide +kernel)
theorem wd334 : (Jvm.Cond.methodLink "ShortVectors" (95 : Nat) ({ cls := "ShortVectors$Echelon", name := "leastMultiplier", desc := "([J)J" } : Jvm.MethodName)) ∈ utbl := u_mem (List.mem_of_getElem? (i := 383) (by decide +kernel)) (by decide +kernel)
theorem wd335 : (Jvm.Cond.constantLong "ShortVectors" (99 : Nat) (-1 : Int64)) ∈ utbl := u_mem (List.mem_of_getElem? (i := 384) (by decide +kernel)) (by decide +kernel)
theorem wd336 : (Jvm.Cond.methodLink "ShortVectorsLaw" (52 : Nat) ({ cls := "ShortVectors", name := "minimum", desc := "(I)I" } : Jvm.MethodName)) ∈ utbl := u_mem (List.mem_of_getElem? (i := 385) (by decide +kernel)) (by decide +kernel)
theorem wd337 : (Jvm.Cond.instanceMethod ({ cls := "ShortVectors", name := "minimum", desc := "(I)I" } : Jvm.MethodName)) ∈ utbl := u_mem (List.mem_of_getElem? (i := 386) (by decide +kernel)) (by decide +kernel)
theorem wd338 : (Jvm.Cond.selects "ShortVectors" ({ cls := "ShortVectors", name := "minimum", desc := "(I)I" } : Jvm.MethodName) ({ cls := "ShortVectors", name := "minimum", desc := "(I)I" } : Jvm.MethodName)) ∈ utbl := u_mem (List.mem_of_getElem? (i := 387) (by decide +kernel)) (by decide +kernel)
theorem wd339 : (Jvm.Cond.code ({ cls := "ShortVectors", name := "minimum", desc := "(I)I" } : Jvm.MethodName) prog_1_method_10_code (2 : Nat) (Option.some Jvm.ClassFile.FieldType.int)) ∈ utbl := u_mem (List.mem_of_getElem? (i := 388) (by decide +kernel)) (by decide +kernel)
theorem wd340 : (Jvm.Cond.methodLink "ShortVectors" (101 : Nat) ({ cls := "ShortVectors$Basis", name := "squareOf", desc := "(I)J" } : Jvm.MethodName)) ∈ utbl := u_mem (List.mem_of_getElem? (i := 389) (by decide +kernel)) (by decide +kernel)
theorem wd341 : (Jvm.Cond.methodLink "ShortVectorsLaw" (57 : Nat) ({ cls := "ShortVectors", name := "count", desc := "(I)I" } : Jvm.MethodName)) ∈ utbl := u_mem (List.mem_of_getElem? (i := 390) (by decide +kernel)) (by decide +kernel)
theorem wd342 : (Jvm.Cond.instanceMethod ({ cls := "ShortVectors", name := "count", desc := "(I)I" } : Jvm.MethodName)) ∈ utbl := u_mem (List.mem_of_getElem? (i := 391) (by decide +kernel)) (by decide +kernel)
theorem wd343 : (Jvm.Cond.selects "ShortVectors" ({ cls := "ShortVectors", name := "count", desc := "(I)I" } : Jvm.MethodName) ({ cls := "ShortVectors", name := "count", desc := "(I)I" } : Jvm.MethodName)) ∈ utbl := u_mem (List.mem_of_getElem? (i := 392) (by decide +kernel)) (by decide +kernel)
theorem wd344 : (Jvm.Cond.code ({ cls := "ShortVectors", name := "count", desc := "(I)I" } : Jvm.MethodName) prog_1_method_11_code (2 : Nat) (Option.some Jvm.ClassFile.FieldType.int)) ∈ utbl := u_mem (List.mem_of_getElem? (i := 393) (by decide +kernel)) (by decide +kernel)
theorem wd345 : (Jvm.Cond.methodLink "ShortVectors" (109 : Nat) ({ cls := "ShortVectors$Tally", name := "fill", desc := "(LShortVectors$Basis;)V" } : Jvm.MethodName)) ∈ utbl := u_mem (List.mem_of_getElem? (i := 394) (by decide +kernel)) (by decide +kernel)
theorem wd346 : (Jvm.Cond.instanceMethod ({ cls := "ShortVectors$Tally", name := "fill", desc := "(LShortVectors$Basis;)V" } : Jvm.MethodName)) ∈ utbl := u_mem (List.mem_of_getElem? (i := 395) (by decide +kernel)) (by decide +kernel)
theorem wd347 : (Jvm.Cond.selects "ShortVectors$Tally" ({ cls := "ShortVectors$Tally", name := "fill", desc := "(LShortVectors$Basis;)V" } : Jvm.MethodName) ({ cls := "ShortVectors$Tally", name := "fill", desc := "(LShortVectors$Basis;)V" } : Jvm.MethodName)) ∈ utbl := u_mem (List.mem_of_getElem? (i := 396) (by decide +kernel)) (by decide +kernel)
theorem wd348 : (Jvm.Cond.code ({ cls := "ShortVectors$Tally", name := "fill", desc := "(LShortVectors$Basis;)V" } : Jvm.MethodName) prog_7_method_2_code (3 : Nat) (Option.none : Option Jvm.ClassFile.FieldType)) ∈ utbl := u_mem (List.mem_of_getElem? (i := 397) (by decide +kernel)) (by decide +kernel)
theorem wd349 : (Jvm.Cond.methodLink "ShortVectors$Tally" (15 : Nat) ({ cls := "java/util/Arrays", name := "fill", desc := "([II)V" } : Jvm.MethodName)) ∈ utbl := u_mem (List.mem_of_getElem? (i := 398) (by decide +kernel)) (by decide +kernel)
theorem wd350 : (Jvm.Cond.static ({ cls := "java/util/Arrays", name := "fill", desc := "([II)V" } : Jvm.MethodName)) ∈ utbl := u_mem (List.mem_of_getElem? (i := 399) (by decide +kernel)) (by decide +kernel)
theorem wd351 : (Jvm.Cond.code ({ cls := "java/util/Arrays", name := "fill", desc := "([II)V" } : Jvm.MethodName) prog_12_method_103_code (4 : Nat) (Option.none : Option Jvm.ClassFile.FieldType)) ∈ utbl := u_mem (List.mem_of_getElem? (i := 400) (by decide +kernel)) (by decide +kernel)
theorem wd352 : (Jvm.Cond.constantLong "ShortVectors$Tally" (21 : Nat) (40 : Int64)) ∈ utbl := u_mem (List.mem_of_getElem? (i := 401) (by decide +kernel)) (by decide +kernel)
theorem wd353 : (Jvm.Cond.methodLink "ShortVectors$Tally" (23 : Nat) ({ cls := "ShortVectors$Tally", name := "setBudget", desc := "(J)V" } : Jvm.MethodName)) ∈ utbl := u_mem (List.mem_of_getElem? (i := 402) (by decide +kernel)) (by decide +kernel)
theorem wd354 : (Jvm.Cond.sameMethod "ShortVectors$Tally" "ShortVectors$Collector" "setBudget" "(J)V") ∈ utbl := u_mem (List.mem_of_getElem? (i := 403) (by decide +kernel)) (by decide +kernel)
theorem wd355 : (Jvm.Cond.declares ({ cls := "ShortVectors$Collector", name := "setBudget", desc := "(J)V" } : Jvm.MethodName)) ∈ lw_tbl := List.mem_of_getElem? (i := 404) (by decide +kernel)
theorem wd356 : (Jvm.Cond.selects "ShortVectors$Tally" ({ cls := "ShortVectors$Tally", name := "setBudget", desc := "(J)V" } : Jvm.MethodName) ({ cls := "ShortVectors$Collector", name := "setBudget", desc := "(J)V" } : Jvm.MethodName)) ∈ utbl := u_mem (List.mem_of_getElem? (i := 405) (by decide +kernel)) (by decide +kernel)
theorem wd357 : (Jvm.Cond.instanceMethod ({ cls := "ShortVectors$Collector", name := "setBudget", desc := "(J)V" } : Jvm.MethodName)) ∈ utbl := u_mem (List.mem_of_getElem? (i := 406) (by decide +kernel)) (by decide +kernel)
theorem wd358 : (Jvm.Cond.code ({ cls := "ShortVectors$Collector", name := "setBudget", desc := "(J)V" } : Jvm.MethodName) prog_4_method_3_code (3 : Nat) (Option.none : Option Jvm.ClassFile.FieldType)) ∈ utbl := u_mem (List.mem_of_getElem? (i := 407) (by decide +kernel)) (by decide +kernel)
theorem wd359 : (Jvm.Cond.methodLink "ShortVectors$Tally" (27 : Nat) ({ cls := "ShortVectors$Basis", name := "search", desc := "(LShortVectors$Collector;)V" } : Jvm.MethodName)) ∈ utbl := u_mem (List.mem_of_getElem? (i := 408) (by decide +kernel)) (by decide +kernel)
theorem wd360 : (Jvm.Cond.instanceMethod ({ cls := "ShortVectors$Basis", name := "search", desc := "(LShortVectors$Collector;)V" } : Jvm.MethodName)) ∈ utbl := u_mem (List.mem_of_getElem? (i := 409) (by decide +kernel)) (by decide +kernel)
theorem wd361 : (Jvm.Cond.selects "ShortVectors$Basis" ({ cls := "ShortVectors$Basis", name := "search", desc := "(LShortVectors$Collector;)V" } : Jvm.MethodName) ({ cls := "ShortVectors$Basis", name := "search", desc := "(LShortVectors$Collector;)V" } : Jvm.MethodName)) ∈ utbl := u_mem (List.mem_of_getElem? (i := 410) (by decide +kernel)) (by decide +kernel)
theorem wd362 : (Jvm.Cond.code ({ cls := "ShortVectors$Basis", name := "search", desc := "(LShortVectors$Collector;)V" } : Jvm.MethodName) prog_2_method_15_code (2 : Nat) (Option.none : Option Jvm.ClassFile.FieldType)) ∈ utbl := u_mem (List.mem_of_getElem? (i := 411) (by decide +kernel)) (by decide +kernel)
theorem wd363 : (Jvm.Cond.methodLink "ShortVectors$Basis" (115 : Nat) ({ cls := "java/util/Arrays", name := "fill", desc := "([JJ)V" } : Jvm.MethodName)) ∈ utbl := u_mem (List.mem_of_getElem? (i := 412) (by decide +kernel)) (by decide +kernel)
theorem wd364 : (Jvm.Cond.methodLink "ShortVectors$Basis" (121 : Nat) ({ cls := "ShortVectors$Collector", name := "goal", desc := "()[J" } : Jvm.MethodName)) ∈ utbl := u_mem (List.mem_of_getElem? (i := 413) (by decide +kernel)) (by decide +kernel)
theorem wd365 : (Jvm.Cond.instanceMethod ({ cls := "ShortVectors$Collector", name := "goal", desc := "()[J" } : Jvm.MethodName)) ∈ utbl := u_mem (List.mem_of_getElem? (i := 414) (by decide +kernel)) (by decide +kernel)
theorem wd366 : (Jvm.Cond.sameMethod "ShortVectors$Collector" "ShortVectors$Collector" "goal" "()[J") ∈ utbl := u_mem (List.mem_of_getElem? (i := 415) (by decide +kernel)) (by decide +kernel)
theorem wd367 : (Jvm.Cond.selects "ShortVectors$Closest" ({ cls := "ShortVectors$Collector", name := "goal", desc := "()[J" } : Jvm.MethodName) ({ cls := "ShortVectors$Collector", name := "goal", desc := "()[J" } : Jvm.MethodName)) ∈ utbl := u_mem (List.mem_of_getElem? (i := 416) (by decide +kernel)) (by decide +kernel)
theorem wd368 : (Jvm.Cond.selects "ShortVectors$FirstVectors" ({ cls := "ShortVectors$Collector", name := "goal", desc := "()[J" } : Jvm.MethodName) ({ cls := "ShortVectors$Collector", name := "goal", desc := "()[J" } : Jvm.MethodName)) ∈ utbl := u_mem (List.mem_of_getElem? (i := 417) (by decide +kernel)) (by decide +kernel)
theorem wd369 : (Jvm.Cond.selects "ShortVectors$Tally" ({ cls := "ShortVectors$Collector", name := "goal", desc := "()[J" } : Jvm.MethodName) ({ cls := "ShortVectors$Collector", name := "goal", desc := "()[J" } : Jvm.MethodName)) ∈ utbl := u_mem (List.mem_of_getElem? (i := 418) (by decide +kernel)) (by decide +kernel)
theorem wd370 : (Jvm.Cond.code ({ cls := "ShortVectors$Collector", name := "goal", desc := "()[J" } : Jvm.MethodName) prog_4_method_2_code (1 : Nat) (Option.some (Jvm.ClassFile.FieldType.array Jvm.ClassFile.FieldType.long))) ∈ utbl := u_mem (List.mem_of_getElem? (i := 419) (by decide +kernel)) (by decide +kernel)
theorem wd371 : (Jvm.Cond.constantLong "ShortVectors$Basis" (127 : Nat) (-1 : Int64)) ∈ utbl := u_mem (List.mem_of_getElem? (i := 420) (by decide +kernel)) (by decide +kernel)
theorem wd372 : (Jvm.Cond.methodLink "ShortVectors$Basis" (129 : Nat) ({ cls := "ShortVectors$Basis", name := "squareOutside", desc := "([J)J" } : Jvm.MethodName)) ∈ utbl := u_mem (List.mem_of_getElem? (i := 421) (by decide +kernel)) (by decide +kernel)
theorem wd374 : (Jvm.Cond.instanceMethod ({ cls := "ShortVectors$Basis", name := "squareOutside", desc := "([J)J" } : Jvm.MethodName)) ∈ utbl := u_mem (List.mem_of_getElem? (i := 423) (by decide +kernel)) (by decide +kernel)
theorem wd375 : (Jvm.Cond.code ({ cls := "ShortVectors$Basis", name := "squareOutside", desc := "([J)J" } : Jvm.MethodName) prog_2_method_16_code (7 : Nat) (Option.some Jvm.ClassFile.FieldType.long)) ∈ utbl := u_mem (List.mem_of_getElem? (i := 424) (by decide +kernel)) (by decide +kernel)
theorem wd376 : (Jvm.Cond.methodLink "ShortVectors$Basis" (137 : Nat) ({ cls := "java/lang/Math", name := "floorDiv", desc := "(JJ)J" } : Jvm.MethodName)) ∈ utbl := u_mem (List.mem_of_getElem? (i := 425) (by decide +kernel)) (by decide +kernel)
theorem wd377 : (Jvm.Cond.methodLink "ShortVectors$Basis" (133 : Nat) ({ cls := "ShortVectors$Basis", name := "descend", desc := "(IJLShortVectors$Collector;)V" } : Jvm.MethodName)) ∈ utbl := u_mem (List.mem_of_getElem? (i := 426) (by decide +kernel)) (by decide +kernel)
theorem wd379 : (Jvm.Cond.instanceMethod ({ cls := "ShortVectors$Basis", name := "descend", desc := "(IJLShortVectors$Collector;)V" } : Jvm.MethodName)) ∈ utbl := u_mem (List.mem_of_getElem? (i := 428) (by decide +kernel)) (by decide +kernel)
theorem wd380 : (Jvm.Cond.code ({ cls := "ShortVectors$Basis", name := "descend", desc := "(IJLShortVectors$Collector;)V" } : Jvm.MethodName) prog_2_method_17_code (8 : Nat) (Option.none : Option Jvm.ClassFile.FieldType)) ∈ utbl := u_mem (List.mem_of_getElem? (i := 429) (by decide +kernel)) (by decide +kernel)
theorem wd381 : (Jvm.Cond.methodLink "ShortVectors$Basis" (140 : Nat) ({ cls := "ShortVectors$Collector", name := "meet", desc := "([JJ)V" } : Jvm.MethodName)) ∈ utbl := u_mem (List.mem_of_getElem? (i := 430) (by decide +kernel)) (by decide +kernel)
theorem wd382 : (Jvm.Cond.declares ({ cls := "ShortVectors$Collector", name := "meet", desc := "([JJ)V" } : Jvm.MethodName)) ∈ lw_tbl := List.mem_of_getElem? (i := 431) (by decide +kernel)
theorem wd383 : (Jvm.Cond.sameMethod "ShortVectors$Collector" "ShortVectors$Collector" "meet" "([JJ)V") ∈ utbl := u_mem (List.mem_of_getElem? (i := 432) (by decide +kernel)) (by decide +kernel)
theorem wd384 : (Jvm.Cond.selects "ShortVectors$Closest" ({ cls := "ShortVectors$Collector", name := "meet", desc := "([JJ)V" } : Jvm.MethodName) ({ cls := "ShortVectors$Closest", name := "meet", desc := "([JJ)V" } : Jvm.MethodName)) ∈ utbl := u_mem (List.mem_of_getElem? (i := 433) (by decide +kernel)) (by decide +kernel)
theorem wd385 : (Jvm.Cond.instanceMethod ({ cls := "ShortVectors$Closest", name := "meet", desc := "([JJ)V" } : Jvm.MethodName)) ∈ utbl := u_mem (List.mem_of_getElem? (i := 434) (by decide +kernel)) (by decide +kernel)
theorem wd386 : (Jvm.Cond.code ({ cls := "ShortVectors$Closest", name := "meet", desc := "([JJ)V" } : Jvm.MethodName) prog_3_method_5_code (4 : Nat) (Option.none : Option Jvm.ClassFile.FieldType)) ∈ utbl := u_mem (List.mem_of_getElem? (i := 435) (by decide +kernel)) (by decide +kernel)
theorem wd387 : (Jvm.Cond.methodLinkNest "ShortVectors$Closest" (53 : Nat) ({ cls := "ShortVectors", name := "comesBefore", desc := "([J[J)Z" } : Jvm.MethodName) "ShortVectors") ∈ lw_tbl := List.mem_of_getElem? (i := 436) (by decide +kernel)
theorem wd388 : (Jvm.Cond.static ({ cls := "ShortVectors", name := "comesBefore", desc := "([J[J)Z" } : Jvm.MethodName)) ∈ utbl := u_mem (List.mem_of_getElem? (i := 437) (by decide +kernel)) (by decide +kernel)
theorem wd389 : (Jvm.Cond.code ({ cls := "ShortVectors", name := "comesBefore", desc := "([J[J)Z" } : Jvm.MethodName) prog_1_method_23_code (3 : Nat) (Option.some Jvm.ClassFile.FieldType.boolean)) ∈ utbl := u_mem (List.mem_of_getElem? (i := 438) (by decide +kernel)) (by decide +kernel)
theorem wd390 : (Jvm.Cond.methodLinkNest "ShortVectors$Closest" (19 : Nat) ({ cls := "ShortVectors", name := "copy", desc := "([J[J)V" } : Jvm.MethodName) "ShortVectors") ∈ lw_tbl := List.mem_of_getElem? (i := 439) (by decide +kernel)
theorem wd391 : (Jvm.Cond.methodLink "ShortVectors$Closest" (43 : Nat) ({ cls := "ShortVectors$Closest", name := "setBudget", desc := "(J)V" } : Jvm.MethodName)) ∈ utbl := u_mem (List.mem_of_getElem? (i := 440) (by decide +kernel)) (by decide +kernel)
theorem wd392 : (Jvm.Cond.sameMethod "ShortVectors$Closest" "ShortVectors$Collector" "setBudget" "(J)V") ∈ utbl := u_mem (List.mem_of_getElem? (i := 441) (by decide +kernel)) (by decide +kernel)
theorem wd393 : (Jvm.Cond.selects "ShortVectors$Closest" ({ cls := "ShortVectors$Closest", name := "setBudget", desc := "(J)V" } : Jvm.MethodName) ({ cls := "ShortVectors$Collector", name := "setBudget", desc := "(J)V" } : Jvm.MethodName)) ∈ utbl := u_mem (List.mem_of_getElem? (i := 442) (by decide +kernel)) (by decide +kernel)
theorem wd394 : (Jvm.Cond.selects "ShortVectors$FirstVectors" ({ cls := "ShortVectors$Collector", name := "meet", desc := "([JJ)V" } : Jvm.MethodName) ({ cls := "ShortVectors$FirstVectors", name := "meet", desc := "([JJ)V" } : Jvm.MethodName)) ∈ utbl := u_mem (List.mem_of_getElem? (i := 443) (by decide +kernel)) (by decide +kernel)
theorem wd395 : (Jvm.Cond.instanceMethod ({ cls := "ShortVectors$FirstVectors", name := "meet", desc := "([JJ)V" } : Jvm.MethodName)) ∈ utbl := u_mem (List.mem_of_getElem? (i := 444) (by decide +kernel)) (by decide +kernel)
theorem wd396 : (Jvm.Cond.code ({ cls := "ShortVectors$FirstVectors", name := "meet", desc := "([JJ)V" } : Jvm.MethodName) prog_6_method_4_code (5 : Nat) (Option.none : Option Jvm.ClassFile.FieldType)) ∈ utbl := u_mem (List.mem_of_getElem? (i := 445) (by decide +kernel)) (by decide +kernel)
theorem wd397 : (Jvm.Cond.methodLink "ShortVectors$FirstVectors" (40 : Nat) ({ cls := "ShortVectors$FirstVectors", name := "wants", desc := "(J)Z" } : Jvm.MethodName)) ∈ utbl := u_mem (List.mem_of_getElem? (i := 446) (by decide +kernel)) (by decide +kernel)
theorem wd398 : (Jvm.Cond.sameMethod "ShortVectors$FirstVectors" "ShortVectors$Collector" "wants" "(J)Z") ∈ utbl := u_mem (List.mem_of_getElem? (i := 447) (by decide +kernel)) (by decide +kernel)
theorem wd399 : (Jvm.Cond.declares ({ cls := "ShortVectors$Collector", name := "wants", desc := "(J)Z" } : Jvm.MethodName)) ∈ lw_tbl := List.mem_of_getElem? (i := 448) (by decide +kernel)
theorem wd400 : (Jvm.Cond.selects "ShortVectors$FirstVectors" ({ cls := "ShortVectors$FirstVectors", name := "wants", desc := "(J)Z" } : Jvm.MethodName) ({ cls := "ShortVectors$Collector", name := "wants", desc := "(J)Z" } : Jvm.MethodName)) ∈ utbl := u_mem (List.mem_of_getElem? (i := 449) (by decide +kernel)) (by decide +kernel)
theorem wd401 : (Jvm.Cond.instanceMethod ({ cls := "ShortVectors$Collector", name := "wants", desc := "(J)Z" } : Jvm.MethodName)) ∈ utbl := u_mem (List.mem_of_getElem? (i := 450) (by decide +kernel)) (by decide +kernel)
theorem wd402 : (Jvm.Cond.code ({ cls := "ShortVectors$Collector", name := "wants", desc := "(J)Z" } : Jvm.MethodName) prog_4_method_4_code (3 : Nat) (Option.some Jvm.ClassFile.FieldType.boolean)) ∈ utbl := u_mem (List.mem_of_getElem? (i := 451) (by decide +kernel)) (by decide +kernel)
theorem wd403 : (Jvm.Cond.methodLink "ShortVectors$FirstVectors" (44 : Nat) ({ cls := "ShortVectors$FirstVectors", name := "precedes", desc := "([JJI)Z" } : Jvm.MethodName)) ∈ utbl := u_mem (List.mem_of_getElem? (i := 452) (by decide +kernel)) (by decide +kernel)
theorem wd405 : (Jvm.Cond.instanceMethod ({ cls := "ShortVectors$FirstVectors", name := "precedes", desc := "([JJI)Z" } : Jvm.MethodName)) ∈ utbl := u_mem (List.mem_of_getElem? (i := 454) (by decide +kernel)) (by decide +kernel)
theorem wd406 : (Jvm.Cond.code ({ cls := "ShortVectors$FirstVectors", name := "precedes", desc := "([JJI)Z" } : Jvm.MethodName) prog_6_method_5_code (5 : Nat) (Option.some Jvm.ClassFile.FieldType.boolean)) ∈ utbl := u_mem (List.mem_of_getElem? (i := 455) (by decide +kernel)) (by decide +kernel)
theorem wd407 : (Jvm.Cond.methodLinkNest "ShortVectors$FirstVectors" (52 : Nat) ({ cls := "ShortVectors", name := "comesBefore", desc := "([J[J)Z" } : Jvm.MethodName) "ShortVectors") ∈ lw_tbl := List.mem_of_getElem? (i := 456) (by decide +kernel)
theorem wd408 : (Jvm.Cond.methodLink "ShortVectors$FirstVectors" (48 : Nat) ({ cls := "ShortVectors$FirstVectors", name := "insert", desc := "([JJI)V" } : Jvm.MethodName)) ∈ utbl := u_mem (List.mem_of_getElem? (i := 457) (by decide +kernel)) (by decide +kernel)
theorem wd410 : (Jvm.Cond.instanceMethod ({ cls := "ShortVectors$FirstVectors", name := "insert", desc := "([JJI)V" } : Jvm.MethodName)) ∈ utbl := u_mem (List.mem_of_getElem? (i := 459) (by decide +kernel)) (by decide +kernel)
theorem wd411 : (Jvm.Cond.code ({ cls := "ShortVectors$FirstVectors", name := "insert", desc := "([JJI)V" } : Jvm.MethodName) prog_6_method_6_code (6 : Nat) (Option.none : Option Jvm.ClassFile.FieldType)) ∈ utbl := u_mem (List.mem_of_getElem? (i := 460) (by decide +kernel)) (by decide +kernel)
theorem wd412 : (Jvm.Cond.methodLink "ShortVectors$FirstVectors" (56 : Nat) ({ cls := "java/lang/Math", name := "min", desc := "(II)I" } : Jvm.MethodName)) ∈ utbl := u_mem (List.mem_of_getElem? (i := 461) (by decide +kernel)) (by decide +kernel)
theorem wd413 : (Jvm.Cond.static ({ cls := "java/lang/Math", name := "min", desc := "(II)I" } : Jvm.MethodName)) ∈ utbl := u_mem (List.mem_of_getElem? (i := 462) (by decide +kernel)) (by decide +kernel)
theorem wd414 : (Jvm.Cond.code ({ cls := "java/lang/Math", name := "min", desc := "(II)I" } : Jvm.MethodName) prog_10_method_69_code (2 : Nat) (Option.some Jvm.ClassFile.FieldType.int)) ∈ utbl := u_mem (List.mem_of_getElem? (i := 463) (by decide +kernel)) (by decide +kernel)
theorem wd415 : (Jvm.Cond.methodLinkNest "ShortVectors$FirstVectors" (62 : Nat) ({ cls := "ShortVectors", name := "copy", desc := "([J[J)V" } : Jvm.MethodName) "ShortVectors") ∈ lw_tbl := List.mem_of_getElem? (i := 464) (by decide +kernel)
theorem wd416 : (Jvm.Cond.methodLink "ShortVectors$FirstVectors" (32 : Nat) ({ cls := "ShortVectors$FirstVectors", name := "setBudget", desc := "(J)V" } : Jvm.MethodName)) ∈ utbl := u_mem (List.mem_of_getElem? (i := 465) (by decide +kernel)) (by decide +kernel)
theorem wd417 : (Jvm.Cond.sameMethod "ShortVectors$FirstVectors" "ShortVectors$Collector" "setBudget" "(J)V") ∈ utbl := u_mem (List.mem_of_getElem? (i := 466) (by decide +kernel)) (by decide +kernel)
theorem wd418 : (Jvm.Cond.selects "ShortVectors$FirstVectors" ({ cls := "ShortVectors$FirstVectors", name := "setBudget", desc := "(J)V" } : Jvm.MethodName) ({ cls := "ShortVectors$Collector", name := "setBudget", desc := "(J)V" } : Jvm.MethodName)) ∈ utbl := u_mem (List.mem_of_getElem? (i := 467) (by decide +kernel)) (by decide +kernel)
theorem wd419 : (Jvm.Cond.selects "ShortVectors$Tally" ({ cls := "ShortVectors$Collector", name := "meet", desc := "([JJ)V" } : Jvm.MethodName) ({ cls := "ShortVectors$Tally", name := "meet", desc := "([JJ)V" } : Jvm.MethodName)) ∈ utbl := u_mem (List.mem_of_getElem? (i := 468) (by decide +kernel)) (by decide +kernel)
theorem wd420 : (Jvm.Cond.instanceMethod ({ cls := "ShortVectors$Tally", name := "meet", desc := "([JJ)V" } : Jvm.MethodName)) ∈ utbl := u_mem (List.mem_of_getElem? (i := 469) (by decide +kernel)) (by decide +kernel)
theorem wd421 : (Jvm.Cond.code ({ cls := "ShortVectors$Tally", name := "meet", desc := "([JJ)V" } : Jvm.MethodName) prog_7_method_4_code (4 : Nat) (Option.none : Option Jvm.ClassFile.FieldType)) ∈ utbl := u_mem (List.mem_of_getElem? (i := 470) (by decide +kernel)) (by decide +kernel)
theorem wd422 : (Jvm.Cond.methodLink "ShortVectors$Tally" (33 : Nat) ({ cls := "ShortVectors$Tally", name := "wants", desc := "(J)Z" } : Jvm.MethodName)) ∈ utbl := u_mem (List.mem_of_getElem? (i := 471) (by decide +kernel)) (by decide +kernel)
theorem wd423 : (Jvm.Cond.sameMethod "ShortVectors$Tally" "ShortVectors$Collector" "wants" "(J)Z") ∈ utbl := u_mem (List.mem_of_getElem? (i := 472) (by decide +kernel)) (by decide +kernel)
theorem wd424 : (Jvm.Cond.selects "ShortVectors$Tally" ({ cls := "ShortVectors$Tally", name := "wants", desc := "(J)Z" } : Jvm.MethodName) ({ cls := "ShortVectors$Collector", name := "wants", desc := "(J)Z" } : Jvm.MethodName)) ∈ utbl := u_mem (List.mem_of_getElem? (i := 473) (by decide +kernel)) (by decide +kernel)
theorem wd425 : (Jvm.Cond.methodLink "ShortVectors$Basis" (143 : Nat) ({ cls := "ShortVectors$Basis", name := "walk", desc := "(IJIJLShortVectors$Collector;)V" } : Jvm.MethodName)) ∈ utbl := u_mem (List.mem_of_getElem? (i := 474) (by decide +kernel)) (by decide +kernel)
theorem wd427 : (Jvm.Cond.instanceMethod ({ cls := "ShortVectors$Basis", name := "walk", desc := "(IJIJLShortVectors$Collector;)V" } : Jvm.MethodName)) ∈ utbl := u_mem (List.mem_of_getElem? (i := 476) (by decide +kernel)) (by decide +kernel)
theorem wd428 : (Jvm.Cond.code ({ cls := "ShortVectors$Basis", name := "walk", desc := "(IJIJLShortVectors$Collector;)V" } : Jvm.MethodName) prog_2_method_18_code (13 : Nat) (Option.none : Option Jvm.ClassFile.FieldType)) ∈ utbl := u_mem (List.mem_of_getElem? (i := 477) (by decide +kernel)) (by decide +kernel)
theorem wd429 : (Jvm.Cond.methodLink "ShortVectors$Basis" (147 : Nat) ({ cls := "ShortVectors$Collector", name := "wants", desc := "(J)Z" } : Jvm.MethodName)) ∈ utbl := u_mem (List.mem_of_getElem? (i := 478) (by decide +kernel)) (by decide +kernel)
theorem wd430 : (Jvm.Cond.methodLink "ShortVectors" (113 : Nat) ({ cls := "ShortVectors$Tally", name := "upTo", desc := "(I)I" } : Jvm.MethodName)) ∈ utbl := u_mem (List.mem_of_getElem? (i := 479) (by decide +kernel)) (by decide +kernel)
theorem wd431 : (Jvm.Cond.instanceMethod ({ cls := "ShortVectors$Tally", name := "upTo", desc := "(I)I" } : Jvm.MethodName)) ∈ utbl := u_mem (List.mem_of_getElem? (i := 480) (by decide +kernel)) (by decide +kernel)
theorem wd432 : (Jvm.Cond.selects "ShortVectors$Tally" ({ cls := "ShortVectors$Tally", name := "upTo", desc := "(I)I" } : Jvm.MethodName) ({ cls := "ShortVectors$Tally", name := "upTo", desc := "(I)I" } : Jvm.MethodName)) ∈ utbl := u_mem (List.mem_of_getElem? (i := 481) (by decide +kernel)) (by decide +kernel)
theorem wd433 : (Jvm.Cond.code ({ cls := "ShortVectors$Tally", name := "upTo", desc := "(I)I" } : Jvm.MethodName) prog_7_method_3_code (2 : Nat) (Option.some Jvm.ClassFile.FieldType.int)) ∈ utbl := u_mem (List.mem_of_getElem? (i := 482) (by decide +kernel)) (by decide +kernel)
theorem wd434 : (Jvm.Cond.methodLink "ShortVectorsLaw" (61 : Nat) ({ cls := "ShortVectors", name := "vector", desc := "(II)I" } : Jvm.MethodName)) ∈ utbl := u_mem (List.mem_of_getElem? (i := 483) (by decide +kernel)) (by decide +kernel)
theorem wd435 : (Jvm.Cond.instanceMethod ({ cls := "ShortVectors", name := "vector", desc := "(II)I" } : Jvm.MethodName)) ∈ utbl := u_mem (List.mem_of_getElem? (i := 484) (by decide +kernel)) (by decide +kernel)
theorem wd436 : (Jvm.Cond.selects "ShortVectors" ({ cls := "ShortVectors", name := "vector", desc := "(II)I" } : Jvm.MethodName) ({ cls := "ShortVectors", name := "vector", desc := "(II)I" } : Jvm.MethodName)) ∈ utbl := u_mem (List.mem_of_getElem? (i := 485) (by decide +kernel)) (by decide +kernel)
theorem wd437 : (Jvm.Cond.code ({ cls := "ShortVectors", name := "vector", desc := "(II)I" } : Jvm.MethodName) prog_1_method_12_code (3 : Nat) (Option.some Jvm.ClassFile.FieldType.int)) ∈ utbl := u_mem (List.mem_of_getElem? (i := 486) (by decide +kernel)) (by decide +kernel)
theorem wd438 : (Jvm.Cond.methodLink "ShortVectors" (117 : Nat) ({ cls := "ShortVectors", name := "isAxis", desc := "(I)Z" } : Jvm.MethodName)) ∈ utbl := u_mem (List.mem_of_getElem? (i := 487) (by decide +kernel)) (by decide +kernel)
theorem wd439 : (Jvm.Cond.static ({ cls := "ShortVectors", name := "isAxis", desc := "(I)Z" } : Jvm.MethodName)) ∈ utbl := u_mem (List.mem_of_getElem? (i := 488) (by decide +kernel)) (by decide +kernel)
theorem wd440 : (Jvm.Cond.code ({ cls := "ShortVectors", name := "isAxis", desc := "(I)Z" } : Jvm.MethodName) prog_1_method_19_code (1 : Nat) (Option.some Jvm.ClassFile.FieldType.boolean)) ∈ utbl := u_mem (List.mem_of_getElem? (i := 489) (by decide +kernel)) (by decide +kernel)
theorem wd441 : (Jvm.Cond.methodLink "ShortVectors" (124 : Nat) ({ cls := "ShortVectors$FirstVectors", name := "fill", desc := "(LShortVectors$Basis;)V" } : Jvm.MethodName)) ∈ utbl := u_mem (List.mem_of_getElem? (i := 490) (by decide +kernel)) (by decide +kernel)
theorem wd442 : (Jvm.Cond.instanceMethod ({ cls := "ShortVectors$FirstVectors", name := "fill", desc := "(LShortVectors$Basis;)V" } : Jvm.MethodName)) ∈ utbl := u_mem (List.mem_of_getElem? (i := 491) (by decide +kernel)) (by decide +kernel)
theorem wd443 : (Jvm.Cond.selects "ShortVectors$FirstVectors" ({ cls := "ShortVectors$FirstVectors", name := "fill", desc := "(LShortVectors$Basis;)V" } : Jvm.MethodName) ({ cls := "ShortVectors$FirstVectors", name := "fill", desc := "(LShortVectors$Basis;)V" } : Jvm.MethodName)) ∈ utbl := u_mem (List.mem_of_getElem? (i := 492) (by decide +kernel)) (by decide +kernel)
theorem wd444 : (Jvm.Cond.code ({ cls := "ShortVectors$FirstVectors", name := "fill", desc := "(LShortVectors$Basis;)V" } : Jvm.MethodName) prog_6_method_2_code (4 : Nat) (Option.none : Option Jvm.ClassFile.FieldType)) ∈ utbl := u_mem (List.mem_of_getElem? (i := 493) (by decide +kernel)) (by decide +kernel)
theorem wd445 : (Jvm.Cond.constantLong "ShortVectors$FirstVectors" (24 : Nat) (20 : Int64)) ∈ utbl := u_mem (List.mem_of_getElem? (i := 494) (by decide +kernel)) (by decide +kernel)
theorem wd446 : (Jvm.Cond.methodLink "ShortVectors$FirstVectors" (26 : Nat) ({ cls := "ShortVectors$Basis", name := "leastSquare", desc := "()J" } : Jvm.MethodName)) ∈ utbl := u_mem (List.mem_of_getElem? (i := 495) (by decide +kernel)) (by decide +kernel)
theorem wd447 : (Jvm.Cond.instanceMethod ({ cls := "ShortVectors$Basis", name := "leastSquare", desc := "()J" } : Jvm.MethodName)) ∈ utbl := u_mem (List.mem_of_getElem? (i := 496) (by decide +kernel)) (by decide +kernel)
theorem wd448 : (Jvm.Cond.selects "ShortVectors$Basis" ({ cls := "ShortVectors$Basis", name := "leastSquare", desc := "()J" } : Jvm.MethodName) ({ cls := "ShortVectors$Basis", name := "leastSquare", desc := "()J" } : Jvm.MethodName)) ∈ utbl := u_mem (List.mem_of_getElem? (i := 497) (by decide +kernel)) (by decide +kernel)
theorem wd449 : (Jvm.Cond.code ({ cls := "ShortVectors$Basis", name := "leastSquare", desc := "()J" } : Jvm.MethodName) prog_2_method_4_code (1 : Nat) (Option.some Jvm.ClassFile.FieldType.long)) ∈ utbl := u_mem (List.mem_of_getElem? (i := 498) (by decide +kernel)) (by decide +kernel)
theorem wd450 : (Jvm.Cond.methodLink "ShortVectors$FirstVectors" (36 : Nat) ({ cls := "ShortVectors$Basis", name := "search", desc := "(LShortVectors$Collector;)V" } : Jvm.MethodName)) ∈ utbl := u_mem (List.mem_of_getElem? (i := 499) (by decide +kernel)) (by decide +kernel)
theorem wd451 : (Jvm.Cond.methodLink "ShortVectors" (125 : Nat) ({ cls := "ShortVectors$FirstVectors", name := "coordinate", desc := "(II)I" } : Jvm.MethodName)) ∈ utbl := u_mem (List.mem_of_getElem? (i := 500) (by decide +kernel)) (by decide +kernel)
theorem wd452 : (Jvm.Cond.instanceMethod ({ cls := "ShortVectors$FirstVectors", name := "coordinate", desc := "(II)I" } : Jvm.MethodName)) ∈ utbl := u_mem (List.mem_of_getElem? (i := 501) (by decide +kernel)) (by decide +kernel)
theorem wd453 : (Jvm.Cond.selects "ShortVectors$FirstVectors" ({ cls := "ShortVectors$FirstVectors", name := "coordinate", desc := "(II)I" } : Jvm.MethodName) ({ cls := "ShortVectors$FirstVectors", name := "coordinate", desc := "(II)I" } : Jvm.MethodName)) ∈ utbl := u_mem (List.mem_of_getElem? (i := 502) (by decide +kernel)) (by decide +kernel)
theorem wd454 : (Jvm.Cond.code ({ cls := "ShortVectors$FirstVectors", name := "coordinate", desc := "(II)I" } : Jvm.MethodName) prog_6_method_3_code (3 : Nat) (Option.some Jvm.ClassFile.FieldType.int)) ∈ utbl := u_mem (List.mem_of_getElem? (i := 503) (by decide +kernel)) (by decide +kernel)
theorem wd455 : (Jvm.Cond.methodLink "ShortVectorsLaw" (66 : Nat) ({ cls := "ShortVectors", name := "distance", desc := "(IIII)I" } : Jvm.MethodName)) ∈ utbl := u_mem (List.mem_of_getElem? (i := 504) (by decide +kernel)) (by decide +kernel)
theorem wd456 : (Jvm.Cond.instanceMethod ({ cls := "ShortVectors", name := "distance", desc := "(IIII)I" } : Jvm.MethodName)) ∈ utbl := u_mem (List.mem_of_getElem? (i := 505) (by decide +kernel)) (by decide +kernel)
theorem wd457 : (Jvm.Cond.selects "ShortVectors" ({ cls := "ShortVectors", name := "distance", desc := "(IIII)I" } : Jvm.MethodName) ({ cls := "ShortVectors", name := "distance", desc := "(IIII)I" } : Jvm.MethodName)) ∈ utbl := u_mem (List.mem_of_getElem? (i := 506) (by decide +kernel)) (by decide +kernel)
theorem wd458 : (Jvm.Cond.code ({ cls := "ShortVectors", name := "distance", desc := "(IIII)I" } : Jvm.MethodName) prog_1_method_13_code (5 : Nat) (Option.some Jvm.ClassFile.FieldType.int)) ∈ utbl := u_mem (List.mem_of_getElem? (i := 507) (by decide +kernel)) (by decide +kernel)
theorem wd459 : (Jvm.Cond.methodLink "ShortVectors" (129 : Nat) ({ cls := "ShortVectors$Closest", name := "approach", desc := "(LShortVectors$Basis;[J)V" } : Jvm.MethodName)) ∈ utbl := u_mem (List.mem_of_getElem? (i := 508) (by decide +kernel)) (by decide +kernel)
theorem wd460 : (Jvm.Cond.instanceMethod ({ cls := "ShortVectors$Closest", name := "approach", desc := "(LShortVectors$Basis;[J)V" } : Jvm.MethodName)) ∈ utbl := u_mem (List.mem_of_getElem? (i := 509) (by decide +kernel)) (by decide +kernel)
theorem wd461 : (Jvm.Cond.selects "ShortVectors$Closest" ({ cls := "ShortVectors$Closest", name := "approach", desc := "(LShortVectors$Basis;[J)V" } : Jvm.MethodName) ({ cls := "ShortVectors$Closest", name := "approach", desc := "(LShortVectors$Basis;[J)V" } : Jvm.MethodName)) ∈ utbl := u_mem (List.mem_of_getElem? (i := 510) (by decide +kernel)) (by decide +kernel)
theorem wd462 : (Jvm.Cond.code ({ cls := "ShortVectors$Closest", name := "approach", desc := "(LShortVectors$Basis;[J)V" } : Jvm.MethodName) prog_3_method_2_code (3 : Nat) (Option.none : Option Jvm.ClassFile.FieldType)) ∈ utbl := u_mem (List.mem_of_getElem? (i := 511) (by decide +kernel)) (by decide +kernel)
theorem wd463 : (Jvm.Cond.methodLink "ShortVectors$Closest" (15 : Nat) ({ cls := "ShortVectors$Closest", name := "goal", desc := "()[J" } : Jvm.MethodName)) ∈ utbl := u_mem (List.mem_of_getElem? (i := 512) (by decide +kernel)) (by decide +kernel)
theorem wd464 : (Jvm.Cond.sameMethod "ShortVectors$Closest" "ShortVectors$Collector" "goal" "()[J") ∈ utbl := u_mem (List.mem_of_getElem? (i := 513) (by decide +kernel)) (by decide +kernel)
theorem wd465 : (Jvm.Cond.declares ({ cls := "ShortVectors$Collector", name := "goal", desc := "()[J" } : Jvm.MethodName)) ∈ lw_tbl := List.mem_of_getElem? (i := 514) (by decide +kernel)
theorem wd466 : (Jvm.Cond.selects "ShortVectors$Closest" ({ cls := "ShortVectors$Closest", name := "goal", desc := "()[J" } : Jvm.MethodName) ({ cls := "ShortVectors$Collector", name := "goal", desc := "()[J" } : Jvm.MethodName)) ∈ utbl := u_mem (List.mem_of_getElem? (i := 515) (by decide +kernel)) (by decide +kernel)
theorem wd467 : (Jvm.Cond.methodLink "ShortVectors$Closest" (23 : Nat) ({ cls := "java/util/Arrays", name := "fill", desc := "([JJ)V" } : Jvm.MethodName)) ∈ utbl := u_mem (List.mem_of_getElem? (i := 516) (by decide +kernel)) (by decide +kernel)
theorem wd468 : (Jvm.Cond.constantLong "ShortVectors$Closest" (29 : Nat) (-1 : Int64)) ∈ utbl := u_mem (List.mem_of_getElem? (i := 517) (by decide +kernel)) (by decide +kernel)
theorem wd469 : (Jvm.Cond.methodLinkNest "ShortVectors$Closest" (31 : Nat) ({ cls := "ShortVectors", name := "addMultiple", desc := "([J[JJ)V" } : Jvm.MethodName) "ShortVectors") ∈ lw_tbl := List.mem_of_getElem? (i := 518) (by decide +kernel)
theorem wd470 : (Jvm.Cond.methodLinkNest "ShortVectors$Closest" (35 : Nat) ({ cls := "ShortVectors", name := "product", desc := "([J[J)J" } : Jvm.MethodName) "ShortVectors") ∈ lw_tbl := List.mem_of_getElem? (i := 519) (by decide +kernel)
theorem wd471 : (Jvm.Cond.methodLink "ShortVectors$Closest" (47 : Nat) ({ cls := "ShortVectors$Basis", name := "search", desc := "(LShortVectors$Collector;)V" } : Jvm.MethodName)) ∈ utbl := u_mem (List.mem_of_getElem? (i := 520) (by decide +kernel)) (by decide +kernel)
theorem wd472 : (Jvm.Cond.methodLink "ShortVectors" (133 : Nat) ({ cls := "ShortVectors$Closest", name := "leastSquare", desc := "()I" } : Jvm.MethodName)) ∈ utbl := u_mem (List.mem_of_getElem? (i := 521) (by decide +kernel)) (by decide +kernel)
theorem wd473 : (Jvm.Cond.instanceMethod ({ cls := "ShortVectors$Closest", name := "leastSquare", desc := "()I" } : Jvm.MethodName)) ∈ utbl := u_mem (List.mem_of_getElem? (i := 522) (by decide +kernel)) (by decide +kernel)
theorem wd474 : (Jvm.Cond.selects "ShortVectors$Closest" ({ cls := "ShortVectors$Closest", name := "leastSquare", desc := "()I" } : Jvm.MethodName) ({ cls := "ShortVectors$Closest", name := "leastSquare", desc := "()I" } : Jvm.MethodName)) ∈ utbl := u_mem (List.mem_of_getElem? (i := 523) (by decide +kernel)) (by decide +kernel)
theorem wd475 : (Jvm.Cond.code ({ cls := "ShortVectors$Closest", name := "leastSquare", desc := "()I" } : Jvm.MethodName) prog_3_method_3_code (1 : Nat) (Option.some Jvm.ClassFile.FieldType.int)) ∈ utbl := u_mem (List.mem_of_getElem? (i := 524) (by decide +kernel)) (by decide +kernel)
theorem wd476 : (Jvm.Cond.methodLink "ShortVectorsLaw" (70 : Nat) ({ cls := "ShortVectors", name := "nearest", desc := "(IIIII)I" } : Jvm.MethodName)) ∈ utbl := u_mem (List.mem_of_getElem? (i := 525) (by decide +kernel)) (by decide +kernel)
theorem wd477 : (Jvm.Cond.instanceMethod ({ cls := "ShortVectors", name := "nearest", desc := "(IIIII)I" } : Jvm.MethodName)) ∈ utbl := u_mem (List.mem_of_getElem? (i := 526) (by decide +kernel)) (by decide +kernel)
theorem wd478 : (Jvm.Cond.selects "ShortVectors" ({ cls := "ShortVectors", name := "nearest", desc := "(IIIII)I" } : Jvm.MethodName) ({ cls := "ShortVectors", name := "nearest", desc := "(IIIII)I" } : Jvm.MethodName)) ∈ utbl := u_mem (List.mem_of_getElem? (i := 527) (by decide +kernel)) (by decide +kernel)
theorem wd479 : (Jvm.Cond.code ({ cls := "ShortVectors", name := "nearest", desc := "(IIIII)I" } : Jvm.MethodName) prog_1_method_14_code (6 : Nat) (Option.some Jvm.ClassFile.FieldType.int)) ∈ utbl := u_mem (List.mem_of_getElem? (i := 528) (by decide +kernel)) (by decide +kernel)
theorem wd480 : (Jvm.Cond.methodLink "ShortVectors" (136 : Nat) ({ cls := "ShortVectors$Closest", name := "coordinate", desc := "(I)I" } : Jvm.MethodName)) ∈ utbl := u_mem (List.mem_of_getElem? (i := 529) (by decide +kernel)) (by decide +kernel)
theorem wd481 : (Jvm.Cond.instanceMethod ({ cls := "ShortVectors$Closest", name := "coordinate", desc := "(I)I" } : Jvm.MethodName)) ∈ utbl := u_mem (List.mem_of_getElem? (i := 530) (by decide +kernel)) (by decide +kernel)
theorem wd482 : (Jvm.Cond.selects "ShortVectors$Closest" ({ cls := "ShortVectors$Closest", name := "coordinate", desc := "(I)I" } : Jvm.MethodName) ({ cls := "ShortVectors$Closest", name := "coordinate", desc := "(I)I" } : Jvm.MethodName)) ∈ utbl := u_mem (List.mem_of_getElem? (i := 531) (by decide +kernel)) (by decide +kernel)
theorem wd483 : (Jvm.Cond.code ({ cls := "ShortVectors$Closest", name := "coordinate", desc := "(I)I" } : Jvm.MethodName) prog_3_method_4_code (2 : Nat) (Option.some Jvm.ClassFile.FieldType.int)) ∈ utbl := u_mem (List.mem_of_getElem? (i := 532) (by decide +kernel)) (by decide +kernel)
theorem wd484 : (Jvm.Cond.classLink "ShortVectorsLaw" (10 : Nat) "ShortVectorsModel") ∈ utbl := u_mem (List.mem_of_getElem? (i := 533) (by decide +kernel)) (by decide +kernel)
theorem wd485 : (Jvm.Cond.instantiable "ShortVectorsModel" (27 : Nat)) ∈ utbl := u_mem (List.mem_of_getElem? (i := 534) (by decide +kernel)) (by decide +kernel)
theorem wd486 : (Jvm.Cond.methodLink "ShortVectorsLaw" (12 : Nat) ({ cls := "ShortVectorsModel", name := "<init>", desc := "()V" } : Jvm.MethodName)) ∈ utbl := u_mem (List.mem_of_getElem? (i := 535) (by decide +kernel)) (by decide +kernel)
theorem wd487 : (Jvm.Cond.instanceMethod ({ cls := "ShortVectorsModel", name := "<init>", desc := "()V" } : Jvm.MethodName)) ∈ utbl := u_mem (List.mem_of_getElem? (i := 536) (by decide +kernel)) (by decide +kernel)
theorem wd488 : (Jvm.Cond.code ({ cls := "ShortVectorsModel", name := "<init>", desc := "()V" } : Jvm.MethodName) prog_9_method_1_code (1 : Nat) (Option.none : Option Jvm.ClassFile.FieldType)) ∈ utbl := u_mem (List.mem_of_getElem? (i := 537) (by decide +kernel)) (by decide +kernel)
theorem wd489 : (Jvm.Cond.methodLink "ShortVectorsModel" (1 : Nat) ({ cls := "java/lang/Object", name := "<init>", desc := "()V" } : Jvm.MethodName)) ∈ utbl := u_mem (List.mem_of_getElem? (i := 538) (by decide +kernel)) (by decide +kernel)
theorem wd490 : (Jvm.Cond.fieldLink "ShortVectorsModel" (67 : Nat) "ShortVectorsModel" "many" "I") ∈ utbl := u_mem (List.mem_of_getElem? (i := 539) (by decide +kernel)) (by decide +kernel)
theorem wd491 : (Jvm.Cond.fieldLink "ShortVectorsModel" (7 : Nat) "ShortVectorsModel" "generator" "[I") ∈ utbl := u_mem (List.mem_of_getElem? (i := 540) (by decide +kernel)) (by decide +kernel)
theorem wd492 : (Jvm.Cond.fieldLink "ShortVectorsModel" (53 : Nat) "ShortVectorsModel" "known" "Z") ∈ utbl := u_mem (List.mem_of_getElem? (i := 541) (by decide +kernel)) (by decide +kernel)
theorem wd493 : (Jvm.Cond.fieldLink "ShortVectorsModel" (98 : Nat) "ShortVectorsModel" "without" "I") ∈ utbl := u_mem (List.mem_of_getElem? (i := 542) (by decide +kernel)) (by decide +kernel)
theorem wd494 : (Jvm.Cond.fieldLink "ShortVectorsModel" (74 : Nat) "ShortVectorsModel" "rows" "I") ∈ utbl := u_mem (List.mem_of_getElem? (i := 543) (by decide +kernel)) (by decide +kernel)
theorem wd495 : (Jvm.Cond.fieldLink "ShortVectorsModel" (13 : Nat) "ShortVectorsModel" "row" "[J") ∈ utbl := u_mem (List.mem_of_getElem? (i := 544) (by decide +kernel)) (by decide +kernel)
theorem wd496 : (Jvm.Cond.fieldLink "ShortVectorsModel" (17 : Nat) "ShortVectorsModel" "pivot" "[I") ∈ utbl := u_mem (List.mem_of_getElem? (i := 545) (by decide +kernel)) (by decide +kernel)
theorem wd497 : (Jvm.Cond.fieldLink "ShortVectorsModel" (20 : Nat) "ShortVectorsModel" "fresh" "[J") ∈ utbl := u_mem (List.mem_of_getElem? (i := 546) (by decide +kernel)) (by decide +kernel)
theorem wd498 : (Jvm.Cond.fieldLink "ShortVectorsModel" (23 : Nat) "ShortVectorsModel" "multiple" "[J") ∈ utbl := u_mem (List.mem_of_getElem? (i := 547) (by decide +kernel)) (by decide +kernel)
theorem wd499 : (Jvm.Cond.fieldLink "ShortVectorsModel" (26 : Nat) "ShortVectorsModel" "last" "[J") ∈ utbl := u_mem (List.mem_of_getElem? (i := 548) (by decide +kernel)) (by decide +kernel)
theorem wd500 : (Jvm.Cond.fieldLink "ShortVectorsModel" (29 : Nat) "ShortVectorsModel" "made" "[J") ∈ utbl := u_mem (List.mem_of_getElem? (i := 549) (by decide +kernel)) (by decide +kernel)
theorem wd501 : (Jvm.Cond.fieldLink "ShortVectorsModel" (32 : Nat) "ShortVectorsModel" "settled" "[J") ∈ utbl := u_mem (List.mem_of_getElem? (i := 550) (by decide +kernel)) (by decide +kernel)
theorem wd502 : (Jvm.Cond.fieldLink "ShortVectorsModel" (35 : Nat) "ShortVectorsModel" "point" "[J") ∈ utbl := u_mem (List.mem_of_getElem? (i := 551) (by decide +kernel)) (by decide +kernel)
theorem wd503 : (Jvm.Cond.fieldLink "ShortVectorsModel" (132 : Nat) "ShortVectorsModel" "limit" "J") ∈ utbl := u_mem (List.mem_of_getElem? (i := 552) (by decide +kernel)) (by decide +kernel)
theorem wd504 : (Jvm.Cond.fieldLink "ShortVectorsModel" (146 : Nat) "ShortVectorsModel" "mode" "I") ∈ utbl := u_mem (List.mem_of_getElem? (i := 553) (by decide +kernel)) (by decide +kernel)
theorem wd505 : (Jvm.Cond.fieldLink "ShortVectorsModel" (169 : Nat) "ShortVectorsModel" "counted" "I") ∈ utbl := u_mem (List.mem_of_getElem? (i := 554) (by decide +kernel)) (by decide +kernel)
theorem wd506 : (Jvm.Cond.fieldLink "ShortVectorsModel" (57 : Nat) "ShortVectorsModel" "listed" "Z") ∈ utbl := u_mem (List.mem_of_getElem? (i := 555) (by decide +kernel)) (by decide +kernel)
theorem wd507 : (Jvm.Cond.fieldLink "ShortVectorsModel" (187 : Nat) "ShortVectorsModel" "held" "I") ∈ utbl := u_mem (List.mem_of_getElem? (i := 556) (by decide +kernel)) (by decide +kernel)
theorem wd508 : (Jvm.Cond.fieldLink "ShortVectorsModel" (38 : Nat) "ShortVectorsModel" "first" "[J") ∈ utbl := u_mem (List.mem_of_getElem? (i := 557) (by decide +kernel)) (by decide +kernel)
theorem wd509 : (Jvm.Cond.fieldLink "ShortVectorsModel" (41 : Nat) "ShortVectorsModel" "squares" "[J") ∈ utbl := u_mem (List.mem_of_getElem? (i := 558) (by decide +kernel)) (by decide +kernel)
theorem wd510 : (Jvm.Cond.fieldLink "ShortVectorsModel" (152 : Nat) "ShortVectorsModel" "wanted" "I") ∈ utbl := u_mem (List.mem_of_getElem? (i := 559) (by decide +kernel)) (by decide +kernel)
theorem wd511 : (Jvm.Cond.fieldLink "ShortVectorsModel" (149 : Nat) "ShortVectorsModel" "spanned" "I") ∈ utbl := u_mem (List.mem_of_getElem? (i := 560) (by decide +kernel)) (by decide +kernel)
theorem wd512 : (Jvm.Cond.fieldLink "ShortVectorsModel" (44 : Nat) "ShortVectorsModel" "span" "[J") ∈ utbl := u_mem (List.mem_of_getElem? (i := 561) (by decide +kernel)) (by decide +kernel)
theorem wd513 : (Jvm.Cond.fieldLink "ShortVectorsModel" (47 : Nat) "ShortVectorsModel" "minima" "[I") ∈ utbl := u_mem (List.mem_of_getElem? (i := 562) (by decide +kernel)) (by decide +kernel)
theorem wd514 : (Jvm.Cond.fieldLink "ShortVectorsModel" (60 : Nat) "ShortVectorsModel" "measured" "Z") ∈ utbl := u_mem (List.mem_of_getElem? (i := 563) (by decide +kernel)) (by decide +kernel)
theorem wd515 : (Jvm.Cond.fieldLink "ShortVectorsModel" (50 : Nat) "ShortVectorsModel" "found" "[J") ∈ utbl := u_mem (List.mem_of_getElem? (i := 564) (by decide +kernel)) (by decide +kernel)
theorem wd516 : (Jvm.Cond.fieldLink "ShortVectorsModel" (210 : Nat) "ShortVectorsModel" "any" "Z") ∈ utbl := u_mem (List.mem_of_getElem? (i := 565) (by decide +kernel)) (by decide +kernel)
theorem wd517 : (Jvm.Cond.lays "ShortVectorsModel" "ShortVectorsModel" "many" "I") ∈ utbl := u_mem (List.mem_of_getElem? (i := 566) (by decide +kernel)) (by decide +kernel)
theorem wd519 : (Jvm.Cond.laysFinal "ShortVectorsModel" "ShortVectorsModel" "generator" "[I") ∈ utbl := u_mem (List.mem_of_getElem? (i := 568) (by decide +kernel)) (by decide +kernel)
theorem wd521 : (Jvm.Cond.lays "ShortVectorsModel" "ShortVectorsModel" "known" "Z") ∈ utbl := u_mem (List.mem_of_getElem? (i := 570) (by decide +kernel)) (by decide +kernel)
theorem wd523 : (Jvm.Cond.lays "ShortVectorsModel" "ShortVectorsModel" "without" "I") ∈ utbl := u_mem (List.mem_of_getElem? (i := 572) (by decide +kernel)) (by decide +kernel)
theorem wd525 : (Jvm.Cond.lays "ShortVectorsModel" "ShortVectorsModel" "rows" "I") ∈ utbl := u_mem (List.mem_of_getElem? (i := 574) (by decide +kernel)) (by decide +kernel)
theorem wd527 : (Jvm.Cond.laysFinal "ShortVectorsModel" "ShortVectorsModel" "row" "[J") ∈ utbl := u_mem (List.mem_of_getElem? (i := 576) (by decide +kernel)) (by decide +kernel)
theorem wd529 : (Jvm.Cond.laysFinal "ShortVectorsModel" "ShortVectorsModel" "pivot" "[I") ∈ utbl := u_mem (List.mem_of_getElem? (i := 578) (by decide +kernel)) (by decide +kernel)
theorem wd531 : (Jvm.Cond.laysFinal "ShortVectorsModel" "ShortVectorsModel" "fresh" "[J") ∈ utbl := u_mem (List.mem_of_getElem? (i := 580) (by decide +kernel)) (by decide +kernel)
theorem wd533 : (Jvm.Cond.laysFinal "ShortVectorsModel" "ShortVectorsModel" "multiple" "[J") ∈ utbl := u_mem (List.mem_of_getElem? (i := 582) (by decide +kernel)) (by decide +kernel)
theorem wd535 : (Jvm.Cond.laysFinal "ShortVectorsModel" "ShortVectorsModel" "last" "[J") ∈ utbl := u_mem (List.mem_of_getElem? (i := 584) (by decide +kernel)) (by decide +kernel)
theorem wd537 : (Jvm.Cond.laysFinal "ShortVectorsModel" "ShortVectorsModel" "made" "[J") ∈ utbl := u_mem (List.mem_of_getElem? (i := 586) (by decide +kernel)) (by decide +kernel)
theorem wd539 : (Jvm.Cond.laysFinal "ShortVectorsModel" "ShortVectorsModel" "settled" "[J") ∈ utbl := u_mem (List.mem_of_getElem? (i := 588) (by decide +kernel)) (by decide +kernel)
theorem wd541 : (Jvm.Cond.laysFinal "ShortVectorsModel" "ShortVectorsModel" "point" "[J") ∈ utbl := u_mem (List.mem_of_getElem? (i := 590) (by decide +kernel)) (by decide +kernel)
theorem wd543 : (Jvm.Cond.lays "ShortVectorsModel" "ShortVectorsModel" "limit" "J") ∈ utbl := u_mem (List.mem_of_getElem? (i := 592) (by decide +kernel)) (by decide +kernel)
theorem wd545 : (Jvm.Cond.lays "ShortVectorsModel" "ShortVectorsModel" "mode" "I") ∈ utbl := u_mem (List.mem_of_getElem? (i := 594) (by decide +kernel)) (by decide +kernel)
theorem wd547 : (Jvm.Cond.lays "ShortVectorsModel" "ShortVectorsModel" "counted" "I") ∈ utbl := u_mem (List.mem_of_getElem? (i := 596) (by decide +kernel)) (by decide +kernel)
theorem wd549 : (Jvm.Cond.lays "ShortVectorsModel" "ShortVectorsModel" "listed" "Z") ∈ utbl := u_mem (List.mem_of_getElem? (i := 598) (by decide +kernel)) (by decide +kernel)
theorem wd551 : (Jvm.Cond.lays "ShortVectorsModel" "ShortVectorsModel" "held" "I") ∈ utbl := u_mem (List.mem_of_getElem? (i := 600) (by decide +kernel)) (by decide +kernel)
theorem wd553 : (Jvm.Cond.laysFinal "ShortVectorsModel" "ShortVectorsModel" "first" "[J") ∈ utbl := u_mem (List.mem_of_getElem? (i := 602) (by decide +kernel)) (by decide +kernel)
theorem wd555 : (Jvm.Cond.laysFinal "ShortVectorsModel" "ShortVectorsModel" "squares" "[J") ∈ utbl := u_mem (List.mem_of_getElem? (i := 604) (by decide +kernel)) (by decide +kernel)
theorem wd557 : (Jvm.Cond.lays "ShortVectorsModel" "ShortVectorsModel" "wanted" "I") ∈ utbl := u_mem (List.mem_of_getElem? (i := 606) (by decide +kernel)) (by decide +kernel)
theorem wd559 : (Jvm.Cond.lays "ShortVectorsModel" "ShortVectorsModel" "spanned" "I") ∈ utbl := u_mem (List.mem_of_getElem? (i := 608) (by decide +kernel)) (by decide +kernel)
theorem wd561 : (Jvm.Cond.laysFinal "ShortVectorsModel" "ShortVectorsModel" "span" "[J") ∈ utbl := u_mem (List.mem_of_getElem? (i := 610) (by decide +kernel)) (by decide +kernel)
theorem wd563 : (Jvm.Cond.laysFinal "ShortVectorsModel" "ShortVectorsModel" "minima" "[I") ∈ utbl := u_mem (List.mem_of_getElem? (i := 612) (by decide +kernel)) (by decide +kernel)
theorem wd565 : (Jvm.Cond.lays "ShortVectorsModel" "ShortVectorsModel" "measured" "Z") ∈ utbl := u_mem (List.mem_of_getElem? (i := 614) (by decide +kernel)) (by decide +kernel)
theorem wd567 : (Jvm.Cond.laysFinal "ShortVectorsModel" "ShortVectorsModel" "found" "[J") ∈ utbl := u_mem (List.mem_of_getElem? (i := 616) (by decide +kernel)) (by decide +kernel)
theorem wd569 : (Jvm.Cond.lays "ShortVectorsModel" "ShortVectorsModel" "any" "Z") ∈ utbl := u_mem (List.mem_of_getElem? (i := 618) (by decide +kernel)) (by decide +kernel)
theorem wd572 : (Jvm.Cond.methodLink "ShortVectorsLaw" (17 : Nat) ({ cls := "ShortVectorsModel", name := "add", desc := "(IIII)I" } : Jvm.MethodName)) ∈ utbl := u_mem (List.mem_of_getElem? (i := 621) (by decide +kernel)) (by decide +kernel)
theorem wd573 : (Jvm.Cond.instanceMethod ({ cls := "ShortVectorsModel", name := "add", desc := "(IIII)I" } : Jvm.MethodName)) ∈ utbl := u_mem (List.mem_of_getElem? (i := 622) (by decide +kernel)) (by decide +kernel)
theorem wd574 : (Jvm.Cond.selects "ShortVectorsModel" ({ cls := "ShortVectorsModel", name := "add", desc := "(IIII)I" } : Jvm.MethodName) ({ cls := "ShortVectorsModel", name := "add", desc := "(IIII)I" } : Jvm.MethodName)) ∈ utbl := u_mem (List.mem_of_getElem? (i := 623) (by decide +kernel)) (by decide +kernel)
theorem wd575 : (Jvm.Cond.code ({ cls := "ShortVectorsModel", name := "add", desc := "(IIII)I" } : Jvm.MethodName) prog_9_method_4_code (5 : Nat) (Option.some Jvm.ClassFile.FieldType.int)) ∈ utbl := u_mem (List.mem_of_getElem? (i := 624) (by decide +kernel)) (by decide +kernel)
theorem wd576 : (Jvm.Cond.methodLink "ShortVectorsModel" (63 : Nat) ({ cls := "ShortVectorsModel", name := "within", desc := "(IIIII)Z" } : Jvm.MethodName)) ∈ utbl := u_mem (List.mem_of_getElem? (i := 625) (by decide +kernel)) (by decide +kernel)
theorem wd577 : (Jvm.Cond.static ({ cls := "ShortVectorsModel", name := "within", desc := "(IIIII)Z" } : Jvm.MethodName)) ∈ utbl := u_mem (List.mem_of_getElem? (i := 626) (by decide +kernel)) (by decide +kernel)
theorem wd578 : (Jvm.Cond.code ({ cls := "ShortVectorsModel", name := "within", desc := "(IIIII)Z" } : Jvm.MethodName) prog_9_method_2_code (5 : Nat) (Option.some Jvm.ClassFile.FieldType.boolean)) ∈ utbl := u_mem (List.mem_of_getElem? (i := 627) (by decide +kernel)) (by decide +kernel)
theorem wd579 : (Jvm.Cond.methodLink "ShortVectorsModel" (71 : Nat) ({ cls := "ShortVectorsModel", name := "changed", desc := "()V" } : Jvm.MethodName)) ∈ utbl := u_mem (List.mem_of_getElem? (i := 628) (by decide +kernel)) (by decide +kernel)
theorem wd581 : (Jvm.Cond.instanceMethod ({ cls := "ShortVectorsModel", name := "changed", desc := "()V" } : Jvm.MethodName)) ∈ utbl := u_mem (List.mem_of_getElem? (i := 630) (by decide +kernel)) (by decide +kernel)
theorem wd582 : (Jvm.Cond.code ({ cls := "ShortVectorsModel", name := "changed", desc := "()V" } : Jvm.MethodName) prog_9_method_3_code (1 : Nat) (Option.none : Option Jvm.ClassFile.FieldType)) ∈ utbl := u_mem (List.mem_of_getElem? (i := 631) (by decide +kernel)) (by decide +kernel)
theorem wd583 : (Jvm.Cond.methodLink "ShortVectorsLaw" (22 : Nat) ({ cls := "ShortVectorsModel", name := "drop", desc := "()Z" } : Jvm.MethodName)) ∈ utbl := u_mem (List.mem_of_getElem? (i := 632) (by decide +kernel)) (by decide +kernel)
theorem wd584 : (Jvm.Cond.instanceMethod ({ cls := "ShortVectorsModel", name := "drop", desc := "()Z" } : Jvm.MethodName)) ∈ utbl := u_mem (List.mem_of_getElem? (i := 633) (by decide +kernel)) (by decide +kernel)
theorem wd585 : (Jvm.Cond.selects "ShortVectorsModel" ({ cls := "ShortVectorsModel", name := "drop", desc := "()Z" } : Jvm.MethodName) ({ cls := "ShortVectorsModel", name := "drop", desc := "()Z" } : Jvm.MethodName)) ∈ utbl := u_mem (List.mem_of_getElem? (i := 634) (by decide +kernel)) (by decide +kernel)
theorem wd586 : (Jvm.Cond.code ({ cls := "ShortVectorsModel", name := "drop", desc := "()Z" } : Jvm.MethodName) prog_9_method_5_code (1 : Nat) (Option.some Jvm.ClassFile.FieldType.boolean)) ∈ utbl := u_mem (List.mem_of_getElem? (i := 635) (by decide +kernel)) (by decide +kernel)
theorem wd587 : (Jvm.Cond.methodLink "ShortVectorsLaw" (27 : Nat) ({ cls := "ShortVectorsModel", name := "generators", desc := "()I" } : Jvm.MethodName)) ∈ utbl := u_mem (List.mem_of_getElem? (i := 636) (by decide +kernel)) (by decide +kernel)
theorem wd588 : (Jvm.Cond.instanceMethod ({ cls := "ShortVectorsModel", name := "generators", desc := "()I" } : Jvm.MethodName)) ∈ utbl := u_mem (List.mem_of_getElem? (i := 637) (by decide +kernel)) (by decide +kernel)
theorem wd589 : (Jvm.Cond.selects "ShortVectorsModel" ({ cls := "ShortVectorsModel", name := "generators", desc := "()I" } : Jvm.MethodName) ({ cls := "ShortVectorsModel", name := "generators", desc := "()I" } : Jvm.MethodName)) ∈ utbl := u_mem (List.mem_of_getElem? (i := 638) (by decide +kernel)) (by decide +kernel)
theorem wd590 : (Jvm.Cond.code ({ cls := "ShortVectorsModel", name := "generators", desc := "()I" } : Jvm.MethodName) prog_9_method_6_code (1 : Nat) (Option.some Jvm.ClassFile.FieldType.int)) ∈ utbl := u_mem (List.mem_of_getElem? (i := 639) (by decide +kernel)) (by decide +kernel)
theorem wd591 : (Jvm.Cond.methodLink "ShortVectorsLaw" (31 : Nat) ({ cls := "ShortVectorsModel", name := "rank", desc := "()I" } : Jvm.MethodName)) ∈ utbl := u_mem (List.mem_of_getElem? (i := 640) (by decide +kernel)) (by decide +kernel)
theorem wd592 : (Jvm.Cond.instanceMethod ({ cls := "ShortVectorsModel", name := "rank", desc := "()I" } : Jvm.MethodName)) ∈ utbl := u_mem (List.mem_of_getElem? (i := 641) (by decide +kernel)) (by decide +kernel)
theorem wd593 : (Jvm.Cond.selects "ShortVectorsModel" ({ cls := "ShortVectorsModel", name := "rank", desc := "()I" } : Jvm.MethodName) ({ cls := "ShortVectorsModel", name := "rank", desc := "()I" } : Jvm.MethodName)) ∈ utbl := u_mem (List.mem_of_getElem? (i := 642) (by decide +kernel)) (by decide +kernel)
theorem wd594 : (Jvm.Cond.code ({ cls := "ShortVectorsModel", name := "rank", desc := "()I" } : Jvm.MethodName) prog_9_method_18_code (1 : Nat) (Option.some Jvm.ClassFile.FieldType.int)) ∈ utbl := u_mem (List.mem_of_getElem? (i := 643) (by decide +kernel)) (by decide +kernel)
theorem wd595 : (Jvm.Cond.methodLink "ShortVectorsModel" (107 : Nat) ({ cls := "ShortVectorsModel", name := "look", desc := "(I)V" } : Jvm.MethodName)) ∈ utbl := u_mem (List.mem_of_getElem? (i := 644) (by decide +kernel)) (by decide +kernel)
theorem wd597 : (Jvm.Cond.instanceMethod ({ cls := "ShortVectorsModel", name := "look", desc := "(I)V" } : Jvm.MethodName)) ∈ utbl := u_mem (List.mem_of_getElem? (i := 646) (by decide +kernel)) (by decide +kernel)
theorem wd598 : (Jvm.Cond.code ({ cls := "ShortVectorsModel", name := "look", desc := "(I)V" } : Jvm.MethodName) prog_9_method_14_code (4 : Nat) (Option.none : Option Jvm.ClassFile.FieldType)) ∈ utbl := u_mem (List.mem_of_getElem? (i := 647) (by decide +kernel)) (by decide +kernel)
theorem wd599 : (Jvm.Cond.methodLink "ShortVectorsModel" (101 : Nat) ({ cls := "ShortVectorsModel", name := "enter", desc := "()V" } : Jvm.MethodName)) ∈ utbl := u_mem (List.mem_of_getElem? (i := 648) (by decide +kernel)) (by decide +kernel)
theorem wd601 : (Jvm.Cond.instanceMethod ({ cls := "ShortVectorsModel", name := "enter", desc := "()V" } : Jvm.MethodName)) ∈ utbl := u_mem (List.mem_of_getElem? (i := 650) (by decide +kernel)) (by decide +kernel)
theorem wd602 : (Jvm.Cond.code ({ cls := "ShortVectorsModel", name := "enter", desc := "()V" } : Jvm.MethodName) prog_9_method_13_code (3 : Nat) (Option.none : Option Jvm.ClassFile.FieldType)) ∈ utbl := u_mem (List.mem_of_getElem? (i := 651) (by decide +kernel)) (by decide +kernel)
theorem wd603 : (Jvm.Cond.methodLink "ShortVectorsModel" (77 : Nat) ({ cls := "ShortVectorsModel", name := "rowAt", desc := "(I)I" } : Jvm.MethodName)) ∈ utbl := u_mem (List.mem_of_getElem? (i := 652) (by decide +kernel)) (by decide +kernel)
theorem wd605 : (Jvm.Cond.instanceMethod ({ cls := "ShortVectorsModel", name := "rowAt", desc := "(I)I" } : Jvm.MethodName)) ∈ utbl := u_mem (List.mem_of_getElem? (i := 654) (by decide +kernel)) (by decide +kernel)
theorem wd606 : (Jvm.Cond.code ({ cls := "ShortVectorsModel", name := "rowAt", desc := "(I)I" } : Jvm.MethodName) prog_9_method_8_code (4 : Nat) (Option.some Jvm.ClassFile.FieldType.int)) ∈ utbl := u_mem (List.mem_of_getElem? (i := 655) (by decide +kernel)) (by decide +kernel)
theorem wd607 : (Jvm.Cond.methodLink "ShortVectorsModel" (89 : Nat) ({ cls := "ShortVectorsModel", name := "tidy", desc := "(I)V" } : Jvm.MethodName)) ∈ utbl := u_mem (List.mem_of_getElem? (i := 656) (by decide +kernel)) (by decide +kernel)
theorem wd609 : (Jvm.Cond.instanceMethod ({ cls := "ShortVectorsModel", name := "tidy", desc := "(I)V" } : Jvm.MethodName)) ∈ utbl := u_mem (List.mem_of_getElem? (i := 658) (by decide +kernel)) (by decide +kernel)
theorem wd610 : (Jvm.Cond.code ({ cls := "ShortVectorsModel", name := "tidy", desc := "(I)V" } : Jvm.MethodName) prog_9_method_9_code (7 : Nat) (Option.none : Option Jvm.ClassFile.FieldType)) ∈ utbl := u_mem (List.mem_of_getElem? (i := 659) (by decide +kernel)) (by decide +kernel)
theorem wd611 : (Jvm.Cond.methodLink "ShortVectorsModel" (81 : Nat) ({ cls := "ShortVectorsModel", name := "under", desc := "(JJ)J" } : Jvm.MethodName)) ∈ utbl := u_mem (List.mem_of_getElem? (i := 660) (by decide +kernel)) (by decide +kernel)
theorem wd612 : (Jvm.Cond.static ({ cls := "ShortVectorsModel", name := "under", desc := "(JJ)J" } : Jvm.MethodName)) ∈ utbl := u_mem (List.mem_of_getElem? (i := 661) (by decide +kernel)) (by decide +kernel)
theorem wd613 : (Jvm.Cond.code ({ cls := "ShortVectorsModel", name := "under", desc := "(JJ)J" } : Jvm.MethodName) prog_9_method_7_code (6 : Nat) (Option.some Jvm.ClassFile.FieldType.long)) ∈ utbl := u_mem (List.mem_of_getElem? (i := 662) (by decide +kernel)) (by decide +kernel)
theorem wd614 : (Jvm.Cond.methodLink "ShortVectorsModel" (92 : Nat) ({ cls := "ShortVectorsModel", name := "insert", desc := "(I)V" } : Jvm.MethodName)) ∈ utbl := u_mem (List.mem_of_getElem? (i := 663) (by decide +kernel)) (by decide +kernel)
theorem wd616 : (Jvm.Cond.instanceMethod ({ cls := "ShortVectorsModel", name := "insert", desc := "(I)V" } : Jvm.MethodName)) ∈ utbl := u_mem (List.mem_of_getElem? (i := 665) (by decide +kernel)) (by decide +kernel)
theorem wd617 : (Jvm.Cond.code ({ cls := "ShortVectorsModel", name := "insert", desc := "(I)V" } : Jvm.MethodName) prog_9_method_12_code (4 : Nat) (Option.none : Option Jvm.ClassFile.FieldType)) ∈ utbl := u_mem (List.mem_of_getElem? (i := 666) (by decide +kernel)) (by decide +kernel)
theorem wd618 : (Jvm.Cond.methodLink "ShortVectorsModel" (95 : Nat) ({ cls := "ShortVectorsModel", name := "divide", desc := "(I)V" } : Jvm.MethodName)) ∈ utbl := u_mem (List.mem_of_getElem? (i := 667) (by decide +kernel)) (by decide +kernel)
theorem wd620 : (Jvm.Cond.instanceMethod ({ cls := "ShortVectorsModel", name := "divide", desc := "(I)V" } : Jvm.MethodName)) ∈ utbl := u_mem (List.mem_of_getElem? (i := 669) (by decide +kernel)) (by decide +kernel)
theorem wd621 : (Jvm.Cond.code ({ cls := "ShortVectorsModel", name := "divide", desc := "(I)V" } : Jvm.MethodName) prog_9_method_11_code (6 : Nat) (Option.none : Option Jvm.ClassFile.FieldType)) ∈ utbl := u_mem (List.mem_of_getElem? (i := 670) (by decide +kernel)) (by decide +kernel)
theorem wd622 : (Jvm.Cond.methodLink "ShortVectorsModel" (85 : Nat) ({ cls := "ShortVectorsModel", name := "swap", desc := "(I)V" } : Jvm.MethodName)) ∈ utbl := u_mem (List.mem_of_getElem? (i := 671) (by decide +kernel)) (by decide +kernel)
theorem wd624 : (Jvm.Cond.instanceMethod ({ cls := "ShortVectorsModel", name := "swap", desc := "(I)V" } : Jvm.MethodName)) ∈ utbl := u_mem (List.mem_of_getElem? (i := 673) (by decide +kernel)) (by decide +kernel)
theorem wd625 : (Jvm.Cond.code ({ cls := "ShortVectorsModel", name := "swap", desc := "(I)V" } : Jvm.MethodName) prog_9_method_10_code (5 : Nat) (Option.none : Option Jvm.ClassFile.FieldType)) ∈ utbl := u_mem (List.mem_of_getElem? (i := 674) (by decide +kernel)) (by decide +kernel)
theorem wd626 : (Jvm.Cond.methodLink "ShortVectorsLaw" (36 : Nat) ({ cls := "ShortVectorsModel", name := "volume", desc := "()J" } : Jvm.MethodName)) ∈ utbl := u_mem (List.mem_of_getElem? (i := 675) (by decide +kernel)) (by decide +kernel)
theorem wd627 : (Jvm.Cond.instanceMethod ({ cls := "ShortVectorsModel", name := "volume", desc := "()J" } : Jvm.MethodName)) ∈ utbl := u_mem (List.mem_of_getElem? (i := 676) (by decide +kernel)) (by decide +kernel)
theorem wd628 : (Jvm.Cond.selects "ShortVectorsModel" ({ cls := "ShortVectorsModel", name := "volume", desc := "()J" } : Jvm.MethodName) ({ cls := "ShortVectorsModel", name := "volume", desc := "()J" } : Jvm.MethodName)) ∈ utbl := u_mem (List.mem_of_getElem? (i := 677) (by decide +kernel)) (by decide +kernel)
theorem wd629 : (Jvm.Cond.code ({ cls := "ShortVectorsModel", name := "volume", desc := "()J" } : Jvm.MethodName) prog_9_method_21_code (6 : Nat) (Option.some Jvm.ClassFile.FieldType.long)) ∈ utbl := u_mem (List.mem_of_getElem? (i := 678) (by decide +kernel)) (by decide +kernel)
theorem wd630 : (Jvm.Cond.methodLink "ShortVectorsModel" (110 : Nat) ({ cls := "ShortVectorsModel", name := "two", desc := "(IIII)J" } : Jvm.MethodName)) ∈ utbl := u_mem (List.mem_of_getElem? (i := 679) (by decide +kernel)) (by decide +kernel)
theorem wd632 : (Jvm.Cond.instanceMethod ({ cls := "ShortVectorsModel", name := "two", desc := "(IIII)J" } : Jvm.MethodName)) ∈ utbl := u_mem (List.mem_of_getElem? (i := 681) (by decide +kernel)) (by decide +kernel)
theorem wd633 : (Jvm.Cond.code ({ cls := "ShortVectorsModel", name := "two", desc := "(IIII)J" } : Jvm.MethodName) prog_9_method_19_code (5 : Nat) (Option.some Jvm.ClassFile.FieldType.long)) ∈ utbl := u_mem (List.mem_of_getElem? (i := 682) (by decide +kernel)) (by decide +kernel)
theorem wd634 : (Jvm.Cond.methodLink "ShortVectorsModel" (114 : Nat) ({ cls := "ShortVectorsModel", name := "three", desc := "(III)J" } : Jvm.MethodName)) ∈ utbl := u_mem (List.mem_of_getElem? (i := 683) (by decide +kernel)) (by decide +kernel)
theorem wd636 : (Jvm.Cond.instanceMethod ({ cls := "ShortVectorsModel", name := "three", desc := "(III)J" } : Jvm.MethodName)) ∈ utbl := u_mem (List.mem_of_getElem? (i := 685) (by decide +kernel)) (by decide +kernel)
theorem wd637 : (Jvm.Cond.code ({ cls := "ShortVectorsModel", name := "three", desc := "(III)J" } : Jvm.MethodName) prog_9_method_20_code (4 : Nat) (Option.some Jvm.ClassFile.FieldType.long)) ∈ utbl := u_mem (List.mem_of_getElem? (i := 686) (by decide +kernel)) (by decide +kernel)
theorem wd638 : (Jvm.Cond.methodLink "ShortVectorsLaw" (41 : Nat) ({ cls := "ShortVectorsModel", name := "spare", desc := "(I)Z" } : Jvm.MethodName)) ∈ utbl := u_mem (List.mem_of_getElem? (i := 687) (by decide +kernel)) (by decide +kernel)
theorem wd639 : (Jvm.Cond.instanceMethod ({ cls := "ShortVectorsModel", name := "spare", desc := "(I)Z" } : Jvm.MethodName)) ∈ utbl := u_mem (List.mem_of_getElem? (i := 688) (by decide +kernel)) (by decide +kernel)
theorem wd640 : (Jvm.Cond.selects "ShortVectorsModel" ({ cls := "ShortVectorsModel", name := "spare", desc := "(I)Z" } : Jvm.MethodName) ({ cls := "ShortVectorsModel", name := "spare", desc := "(I)Z" } : Jvm.MethodName)) ∈ utbl := u_mem (List.mem_of_getElem? (i := 689) (by decide +kernel)) (by decide +kernel)
theorem wd641 : (Jvm.Cond.code ({ cls := "ShortVectorsModel", name := "spare", desc := "(I)Z" } : Jvm.MethodName) prog_9_method_22_code (2 : Nat) (Option.some Jvm.ClassFile.FieldType.boolean)) ∈ utbl := u_mem (List.mem_of_getElem? (i := 690) (by decide +kernel)) (by decide +kernel)
theorem wd642 : (Jvm.Cond.methodLink "ShortVectorsModel" (118 : Nat) ({ cls := "ShortVectorsModel", name := "set", desc := "(IIII)V" } : Jvm.MethodName)) ∈ utbl := u_mem (List.mem_of_getElem? (i := 691) (by decide +kernel)) (by decide +kernel)
theorem wd644 : (Jvm.Cond.instanceMethod ({ cls := "ShortVectorsModel", name := "set", desc := "(IIII)V" } : Jvm.MethodName)) ∈ utbl := u_mem (List.mem_of_getElem? (i := 693) (by decide +kernel)) (by decide +kernel)
theorem wd645 : (Jvm.Cond.code ({ cls := "ShortVectorsModel", name := "set", desc := "(IIII)V" } : Jvm.MethodName) prog_9_method_17_code (5 : Nat) (Option.none : Option Jvm.ClassFile.FieldType)) ∈ utbl := u_mem (List.mem_of_getElem? (i := 694) (by decide +kernel)) (by decide +kernel)
theorem wd646 : (Jvm.Cond.methodLink "ShortVectorsModel" (122 : Nat) ({ cls := "ShortVectorsModel", name := "times", desc := "()J" } : Jvm.MethodName)) ∈ utbl := u_mem (List.mem_of_getElem? (i := 695) (by decide +kernel)) (by decide +kernel)
theorem wd648 : (Jvm.Cond.instanceMethod ({ cls := "ShortVectorsModel", name := "times", desc := "()J" } : Jvm.MethodName)) ∈ utbl := u_mem (List.mem_of_getElem? (i := 697) (by decide +kernel)) (by decide +kernel)
theorem wd649 : (Jvm.Cond.code ({ cls := "ShortVectorsModel", name := "times", desc := "()J" } : Jvm.MethodName) prog_9_method_15_code (12 : Nat) (Option.some Jvm.ClassFile.FieldType.long)) ∈ utbl := u_mem (List.mem_of_getElem? (i := 698) (by decide +kernel)) (by decide +kernel)
theorem wd650 : (Jvm.Cond.methodLink "ShortVectorsModel" (104 : Nat) ({ cls := "ShortVectorsModel", name := "common", desc := "(JJ)J" } : Jvm.MethodName)) ∈ utbl := u_mem (List.mem_of_getElem? (i := 699) (by decide +kernel)) (by decide +kernel)
theorem wd651 : (Jvm.Cond.static ({ cls := "ShortVectorsModel", name := "common", desc := "(JJ)J" } : Jvm.MethodName)) ∈ utbl := u_mem (List.mem_of_getElem? (i := 700) (by decide +kernel)) (by decide +kernel)
theorem wd652 : (Jvm.Cond.code ({ cls := "ShortVectorsModel", name := "common", desc := "(JJ)J" } : Jvm.MethodName) prog_9_method_16_code (10 : Nat) (Option.some Jvm.ClassFile.FieldType.long)) ∈ utbl := u_mem (List.mem_of_getElem? (i := 701) (by decide +kernel)) (by decide +kernel)
theorem wd653 : (Jvm.Cond.methodLink "ShortVectorsLaw" (46 : Nat) ({ cls := "ShortVectorsModel", name := "has", desc := "(IIII)Z" } : Jvm.MethodName)) ∈ utbl := u_mem (List.mem_of_getElem? (i := 702) (by decide +kernel)) (by decide +kernel)
theorem wd654 : (Jvm.Cond.instanceMethod ({ cls := "ShortVectorsModel", name := "has", desc := "(IIII)Z" } : Jvm.MethodName)) ∈ utbl := u_mem (List.mem_of_getElem? (i := 703) (by decide +kernel)) (by decide +kernel)
theorem wd655 : (Jvm.Cond.selects "ShortVectorsModel" ({ cls := "ShortVectorsModel", name := "has", desc := "(IIII)Z" } : Jvm.MethodName) ({ cls := "ShortVectorsModel", name := "has", desc := "(IIII)Z" } : Jvm.MethodName)) ∈ utbl := u_mem (List.mem_of_getElem? (i := 704) (by decide +kernel)) (by decide +kernel)
theorem wd656 : (Jvm.Cond.code ({ cls := "ShortVectorsModel", name := "has", desc := "(IIII)Z" } : Jvm.MethodName) prog_9_method_23_code (5 : Nat) (Option.some Jvm.ClassFile.FieldType.boolean)) ∈ utbl := u_mem (List.mem_of_getElem? (i := 705) (by decide +kernel)) (by decide +kernel)
theorem wd657 : (Jvm.Cond.methodLink "ShortVectorsLaw" (51 : Nat) ({ cls := "ShortVectorsModel", name := "order", desc := "(IIII)J" } : Jvm.MethodName)) ∈ utbl := u_mem (List.mem_of_getElem? (i := 706) (by decide +kernel)) (by decide +kernel)
theorem wd658 : (Jvm.Cond.instanceMethod ({ cls := "ShortVectorsModel", name := "order", desc := "(IIII)J" } : Jvm.MethodName)) ∈ utbl := u_mem (List.mem_of_getElem? (i := 707) (by decide +kernel)) (by decide +kernel)
theorem wd659 : (Jvm.Cond.selects "ShortVectorsModel" ({ cls := "ShortVectorsModel", name := "order", desc := "(IIII)J" } : Jvm.MethodName) ({ cls := "ShortVectorsModel", name := "order", desc := "(IIII)J" } : Jvm.MethodName)) ∈ utbl := u_mem (List.mem_of_getElem? (i := 708) (by decide +kernel)) (by decide +kernel)
theorem wd660 : (Jvm.Cond.code ({ cls := "ShortVectorsModel", name := "order", desc := "(IIII)J" } : Jvm.MethodName) prog_9_method_24_code (5 : Nat) (Option.some Jvm.ClassFile.FieldType.long)) ∈ utbl := u_mem (List.mem_of_getElem? (i := 709) (by decide +kernel)) (by decide +kernel)
theorem wd661 : (Jvm.Cond.constantLong "ShortVectorsModel" (126 : Nat) (-1 : Int64)) ∈ utbl := u_mem (List.mem_of_getElem? (i := 710) (by decide +kernel)) (by decide +kernel)
theorem wd662 : (Jvm.Cond.methodLink "ShortVectorsLaw" (60 : Nat) ({ cls := "ShortVectorsModel", name := "count", desc := "(I)I" } : Jvm.MethodName)) ∈ utbl := u_mem (List.mem_of_getElem? (i := 711) (by decide +kernel)) (by decide +kernel)
theorem wd663 : (Jvm.Cond.instanceMethod ({ cls := "ShortVectorsModel", name := "count", desc := "(I)I" } : Jvm.MethodName)) ∈ utbl := u_mem (List.mem_of_getElem? (i := 712) (by decide +kernel)) (by decide +kernel)
theorem wd664 : (Jvm.Cond.selects "ShortVectorsModel" ({ cls := "ShortVectorsModel", name := "count", desc := "(I)I" } : Jvm.MethodName) ({ cls := "ShortVectorsModel", name := "count", desc := "(I)I" } : Jvm.MethodName)) ∈ utbl := u_mem (List.mem_of_getElem? (i := 713) (by decide +kernel)) (by decide +kernel)
theorem wd665 : (Jvm.Cond.code ({ cls := "ShortVectorsModel", name := "count", desc := "(I)I" } : Jvm.MethodName) prog_9_method_34_code (2 : Nat) (Option.some Jvm.ClassFile.FieldType.int)) ∈ utbl := u_mem (List.mem_of_getElem? (i := 714) (by decide +kernel)) (by decide +kernel)
theorem wd666 : (Jvm.Cond.methodLink "ShortVectorsModel" (181 : Nat) ({ cls := "ShortVectorsModel", name := "origin", desc := "()V" } : Jvm.MethodName)) ∈ utbl := u_mem (List.mem_of_getElem? (i := 715) (by decide +kernel)) (by decide +kernel)
theorem wd668 : (Jvm.Cond.instanceMethod ({ cls := "ShortVectorsModel", name := "origin", desc := "()V" } : Jvm.MethodName)) ∈ utbl := u_mem (List.mem_of_getElem? (i := 717) (by decide +kernel)) (by decide +kernel)
theorem wd669 : (Jvm.Cond.code ({ cls := "ShortVectorsModel", name := "origin", desc := "()V" } : Jvm.MethodName) prog_9_method_33_code (2 : Nat) (Option.none : Option Jvm.ClassFile.FieldType)) ∈ utbl := u_mem (List.mem_of_getElem? (i := 718) (by decide +kernel)) (by decide +kernel)
theorem wd670 : (Jvm.Cond.methodLink "ShortVectorsModel" (184 : Nat) ({ cls := "ShortVectorsModel", name := "walk", desc := "(IJ)V" } : Jvm.MethodName)) ∈ utbl := u_mem (List.mem_of_getElem? (i := 719) (by decide +kernel)) (by decide +kernel)
theorem wd672 : (Jvm.Cond.instanceMethod ({ cls := "ShortVectorsModel", name := "walk", desc := "(IJ)V" } : Jvm.MethodName)) ∈ utbl := u_mem (List.mem_of_getElem? (i := 721) (by decide +kernel)) (by decide +kernel)
theorem wd673 : (Jvm.Cond.code ({ cls := "ShortVectorsModel", name := "walk", desc := "(IJ)V" } : Jvm.MethodName) prog_9_method_31_code (5 : Nat) (Option.none : Option Jvm.ClassFile.FieldType)) ∈ utbl := u_mem (List.mem_of_getElem? (i := 722) (by decide +kernel)) (by decide +kernel)
theorem wd674 : (Jvm.Cond.methodLink "ShortVectorsModel" (140 : Nat) ({ cls := "ShortVectorsModel", name := "open", desc := "(I)I" } : Jvm.MethodName)) ∈ utbl := u_mem (List.mem_of_getElem? (i := 723) (by decide +kernel)) (by decide +kernel)
theorem wd676 : (Jvm.Cond.instanceMethod ({ cls := "ShortVectorsModel", name := "open", desc := "(I)I" } : Jvm.MethodName)) ∈ utbl := u_mem (List.mem_of_getElem? (i := 725) (by decide +kernel)) (by decide +kernel)
theorem wd677 : (Jvm.Cond.code ({ cls := "ShortVectorsModel", name := "open", desc := "(I)I" } : Jvm.MethodName) prog_9_method_27_code (2 : Nat) (Option.some Jvm.ClassFile.FieldType.int)) ∈ utbl := u_mem (List.mem_of_getElem? (i := 726) (by decide +kernel)) (by decide +kernel)
theorem wd678 : (Jvm.Cond.methodLink "ShortVectorsModel" (155 : Nat) ({ cls := "ShortVectorsModel", name := "visit", desc := "(IJ)V" } : Jvm.MethodName)) ∈ utbl := u_mem (List.mem_of_getElem? (i := 727) (by decide +kernel)) (by decide +kernel)
theorem wd680 : (Jvm.Cond.instanceMethod ({ cls := "ShortVectorsModel", name := "visit", desc := "(IJ)V" } : Jvm.MethodName)) ∈ utbl := u_mem (List.mem_of_getElem? (i := 729) (by decide +kernel)) (by decide +kernel)
theorem wd681 : (Jvm.Cond.code ({ cls := "ShortVectorsModel", name := "visit", desc := "(IJ)V" } : Jvm.MethodName) prog_9_method_32_code (4 : Nat) (Option.none : Option Jvm.ClassFile.FieldType)) ∈ utbl := u_mem (List.mem_of_getElem? (i := 730) (by decide +kernel)) (by decide +kernel)
theorem wd682 : (Jvm.Cond.methodLink "ShortVectorsModel" (172 : Nat) ({ cls := "ShortVectorsModel", name := "sortIn", desc := "(IJ)V" } : Jvm.MethodName)) ∈ utbl := u_mem (List.mem_of_getElem? (i := 731) (by decide +kernel)) (by decide +kernel)
theorem wd684 : (Jvm.Cond.instanceMethod ({ cls := "ShortVectorsModel", name := "sortIn", desc := "(IJ)V" } : Jvm.MethodName)) ∈ utbl := u_mem (List.mem_of_getElem? (i := 733) (by decide +kernel)) (by decide +kernel)
theorem wd685 : (Jvm.Cond.code ({ cls := "ShortVectorsModel", name := "sortIn", desc := "(IJ)V" } : Jvm.MethodName) prog_9_method_36_code (6 : Nat) (Option.none : Option Jvm.ClassFile.FieldType)) ∈ utbl := u_mem (List.mem_of_getElem? (i := 734) (by decide +kernel)) (by decide +kernel)
theorem wd686 : (Jvm.Cond.methodLink "ShortVectorsModel" (190 : Nat) ({ cls := "ShortVectorsModel", name := "before", desc := "(IJI)Z" } : Jvm.MethodName)) ∈ utbl := u_mem (List.mem_of_getElem? (i := 735) (by decide +kernel)) (by decide +kernel)
theorem wd688 : (Jvm.Cond.instanceMethod ({ cls := "ShortVectorsModel", name := "before", desc := "(IJI)Z" } : Jvm.MethodName)) ∈ utbl := u_mem (List.mem_of_getElem? (i := 737) (by decide +kernel)) (by decide +kernel)
theorem wd689 : (Jvm.Cond.code ({ cls := "ShortVectorsModel", name := "before", desc := "(IJI)Z" } : Jvm.MethodName) prog_9_method_35_code (6 : Nat) (Option.some Jvm.ClassFile.FieldType.boolean)) ∈ utbl := u_mem (List.mem_of_getElem? (i := 738) (by decide +kernel)) (by decide +kernel)
theorem wd690 : (Jvm.Cond.methodLink "ShortVectorsModel" (175 : Nat) ({ cls := "ShortVectorsModel", name := "extend", desc := "(I)V" } : Jvm.MethodName)) ∈ utbl := u_mem (List.mem_of_getElem? (i := 739) (by decide +kernel)) (by decide +kernel)
theorem wd692 : (Jvm.Cond.instanceMethod ({ cls := "ShortVectorsModel", name := "extend", desc := "(I)V" } : Jvm.MethodName)) ∈ utbl := u_mem (List.mem_of_getElem? (i := 741) (by decide +kernel)) (by decide +kernel)
theorem wd693 : (Jvm.Cond.code ({ cls := "ShortVectorsModel", name := "extend", desc := "(I)V" } : Jvm.MethodName) prog_9_method_39_code (9 : Nat) (Option.none : Option Jvm.ClassFile.FieldType)) ∈ utbl := u_mem (List.mem_of_getElem? (i := 742) (by decide +kernel)) (by decide +kernel)
theorem wd694 : (Jvm.Cond.methodLink "ShortVectorsModel" (197 : Nat) ({ cls := "ShortVectorsModel", name := "lead", desc := "(I)I" } : Jvm.MethodName)) ∈ utbl := u_mem (List.mem_of_getElem? (i := 743) (by decide +kernel)) (by decide +kernel)
theorem wd696 : (Jvm.Cond.instanceMethod ({ cls := "ShortVectorsModel", name := "lead", desc := "(I)I" } : Jvm.MethodName)) ∈ utbl := u_mem (List.mem_of_getElem? (i := 745) (by decide +kernel)) (by decide +kernel)
theorem wd697 : (Jvm.Cond.code ({ cls := "ShortVectorsModel", name := "lead", desc := "(I)I" } : Jvm.MethodName) prog_9_method_40_code (3 : Nat) (Option.some Jvm.ClassFile.FieldType.int)) ∈ utbl := u_mem (List.mem_of_getElem? (i := 746) (by decide +kernel)) (by decide +kernel)
theorem wd698 : (Jvm.Cond.methodLink "ShortVectorsModel" (200 : Nat) ({ cls := "ShortVectorsModel", name := "shrink", desc := "()V" } : Jvm.MethodName)) ∈ utbl := u_mem (List.mem_of_getElem? (i := 747) (by decide +kernel)) (by decide +kernel)
theorem wd700 : (Jvm.Cond.instanceMethod ({ cls := "ShortVectorsModel", name := "shrink", desc := "()V" } : Jvm.MethodName)) ∈ utbl := u_mem (List.mem_of_getElem? (i := 749) (by decide +kernel)) (by decide +kernel)
theorem wd701 : (Jvm.Cond.code ({ cls := "ShortVectorsModel", name := "shrink", desc := "()V" } : Jvm.MethodName) prog_9_method_41_code (4 : Nat) (Option.none : Option Jvm.ClassFile.FieldType)) ∈ utbl := u_mem (List.mem_of_getElem? (i := 750) (by decide +kernel)) (by decide +kernel)
theorem wd702 : (Jvm.Cond.methodLink "ShortVectorsModel" (178 : Nat) ({ cls := "ShortVectorsModel", name := "compare", desc := "(IJ)V" } : Jvm.MethodName)) ∈ utbl := u_mem (List.mem_of_getElem? (i := 751) (by decide +kernel)) (by decide +kernel)
theorem wd704 : (Jvm.Cond.instanceMethod ({ cls := "ShortVectorsModel", name := "compare", desc := "(IJ)V" } : Jvm.MethodName)) ∈ utbl := u_mem (List.mem_of_getElem? (i := 753) (by decide +kernel)) (by decide +kernel)
theorem wd705 : (Jvm.Cond.code ({ cls := "ShortVectorsModel", name := "compare", desc := "(IJ)V" } : Jvm.MethodName) prog_9_method_45_code (6 : Nat) (Option.none : Option Jvm.ClassFile.FieldType)) ∈ utbl := u_mem (List.mem_of_getElem? (i := 754) (by decide +kernel)) (by decide +kernel)
theorem wd706 : (Jvm.Cond.methodLink "ShortVectorsModel" (163 : Nat) ({ cls := "ShortVectorsModel", name := "finish", desc := "(I)V" } : Jvm.MethodName)) ∈ utbl := u_mem (List.mem_of_getElem? (i := 755) (by decide +kernel)) (by decide +kernel)
theorem wd708 : (Jvm.Cond.instanceMethod ({ cls := "ShortVectorsModel", name := "finish", desc := "(I)V" } : Jvm.MethodName)) ∈ utbl := u_mem (List.mem_of_getElem? (i := 757) (by decide +kernel)) (by decide +kernel)
theorem wd709 : (Jvm.Cond.code ({ cls := "ShortVectorsModel", name := "finish", desc := "(I)V" } : Jvm.MethodName) prog_9_method_30_code (8 : Nat) (Option.none : Option Jvm.ClassFile.FieldType)) ∈ utbl := u_mem (List.mem_of_getElem? (i := 758) (by decide +kernel)) (by decide +kernel)
theorem wd710 : (Jvm.Cond.constantLong "ShortVectorsModel" (130 : Nat) (2 : Int64)) ∈ utbl := u_mem (List.mem_of_getElem? (i := 759) (by decide +kernel)) (by decide +kernel)
theorem wd711 : (Jvm.Cond.methodLink "ShortVectorsModel" (159 : Nat) ({ cls := "ShortVectorsModel", name := "along", desc := "(IJJ)V" } : Jvm.MethodName)) ∈ utbl := u_mem (List.mem_of_getElem? (i := 760) (by decide +kernel)) (by decide +kernel)
theorem wd713 : (Jvm.Cond.instanceMethod ({ cls := "ShortVectorsModel", name := "along", desc := "(IJJ)V" } : Jvm.MethodName)) ∈ utbl := u_mem (List.mem_of_getElem? (i := 762) (by decide +kernel)) (by decide +kernel)
theorem wd714 : (Jvm.Cond.code ({ cls := "ShortVectorsModel", name := "along", desc := "(IJJ)V" } : Jvm.MethodName) prog_9_method_29_code (6 : Nat) (Option.none : Option Jvm.ClassFile.FieldType)) ∈ utbl := u_mem (List.mem_of_getElem? (i := 763) (by decide +kernel)) (by decide +kernel)
theorem wd715 : (Jvm.Cond.methodLink "ShortVectorsModel" (143 : Nat) ({ cls := "ShortVectorsModel", name := "take", desc := "(I)V" } : Jvm.MethodName)) ∈ utbl := u_mem (List.mem_of_getElem? (i := 764) (by decide +kernel)) (by decide +kernel)
theorem wd717 : (Jvm.Cond.instanceMethod ({ cls := "ShortVectorsModel", name := "take", desc := "(I)V" } : Jvm.MethodName)) ∈ utbl := u_mem (List.mem_of_getElem? (i := 766) (by decide +kernel)) (by decide +kernel)
theorem wd718 : (Jvm.Cond.code ({ cls := "ShortVectorsModel", name := "take", desc := "(I)V" } : Jvm.MethodName) prog_9_method_28_code (7 : Nat) (Option.none : Option Jvm.ClassFile.FieldType)) ∈ utbl := u_mem (List.mem_of_getElem? (i := 767) (by decide +kernel)) (by decide +kernel)
theorem wd719 : (Jvm.Cond.methodLink "ShortVectorsModel" (166 : Nat) ({ cls := "ShortVectorsModel", name := "range", desc := "(I)V" } : Jvm.MethodName)) ∈ utbl := u_mem (List.mem_of_getElem? (i := 768) (by decide +kernel)) (by decide +kernel)
theorem wd721 : (Jvm.Cond.instanceMethod ({ cls := "ShortVectorsModel", name := "range", desc := "(I)V" } : Jvm.MethodName)) ∈ utbl := u_mem (List.mem_of_getElem? (i := 770) (by decide +kernel)) (by decide +kernel)
theorem wd722 : (Jvm.Cond.code ({ cls := "ShortVectorsModel", name := "range", desc := "(I)V" } : Jvm.MethodName) prog_9_method_26_code (9 : Nat) (Option.none : Option Jvm.ClassFile.FieldType)) ∈ utbl := u_mem (List.mem_of_getElem? (i := 771) (by decide +kernel)) (by decide +kernel)
theorem wd723 : (Jvm.Cond.methodLink "ShortVectorsModel" (136 : Nat) ({ cls := "ShortVectorsModel", name := "root", desc := "(J)J" } : Jvm.MethodName)) ∈ utbl := u_mem (List.mem_of_getElem? (i := 772) (by decide +kernel)) (by decide +kernel)
theorem wd724 : (Jvm.Cond.static ({ cls := "ShortVectorsModel", name := "root", desc := "(J)J" } : Jvm.MethodName)) ∈ utbl := u_mem (List.mem_of_getElem? (i := 773) (by decide +kernel)) (by decide +kernel)
theorem wd725 : (Jvm.Cond.code ({ cls := "ShortVectorsModel", name := "root", desc := "(J)J" } : Jvm.MethodName) prog_9_method_25_code (6 : Nat) (Option.some Jvm.ClassFile.FieldType.long)) ∈ utbl := u_mem (List.mem_of_getElem? (i := 774) (by decide +kernel)) (by decide +kernel)
theorem wd726 : (Jvm.Cond.constantLong "ShortVectorsModel" (128 : Nat) (65536 : Int64)) ∈ utbl := u_mem (List.mem_of_getElem? (i := 775) (by decide +kernel)) (by decide +kernel)
theorem wd727 : (Jvm.Cond.methodLink "ShortVectorsLaw" (65 : Nat) ({ cls := "ShortVectorsModel", name := "vector", desc := "(II)I" } : Jvm.MethodName)) ∈ utbl := u_mem (List.mem_of_getElem? (i := 776) (by decide +kernel)) (by decide +kernel)
theorem wd728 : (Jvm.Cond.instanceMethod ({ cls := "ShortVectorsModel", name := "vector", desc := "(II)I" } : Jvm.MethodName)) ∈ utbl := u_mem (List.mem_of_getElem? (i := 777) (by decide +kernel)) (by decide +kernel)
theorem wd729 : (Jvm.Cond.selects "ShortVectorsModel" ({ cls := "ShortVectorsModel", name := "vector", desc := "(II)I" } : Jvm.MethodName) ({ cls := "ShortVectorsModel", name := "vector", desc := "(II)I" } : Jvm.MethodName)) ∈ utbl := u_mem (List.mem_of_getElem? (i := 778) (by decide +kernel)) (by decide +kernel)
theorem wd730 : (Jvm.Cond.code ({ cls := "ShortVectorsModel", name := "vector", desc := "(II)I" } : Jvm.MethodName) prog_9_method_38_code (3 : Nat) (Option.some Jvm.ClassFile.FieldType.int)) ∈ utbl := u_mem (List.mem_of_getElem? (i := 779) (by decide +kernel)) (by decide +kernel)
theorem wd731 : (Jvm.Cond.methodLink "ShortVectorsModel" (194 : Nat) ({ cls := "ShortVectorsModel", name := "list", desc := "()V" } : Jvm.MethodName)) ∈ utbl := u_mem (List.mem_of_getElem? (i := 780) (by decide +kernel)) (by decide +kernel)
theorem wd733 : (Jvm.Cond.instanceMethod ({ cls := "ShortVectorsModel", name := "list", desc := "()V" } : Jvm.MethodName)) ∈ utbl := u_mem (List.mem_of_getElem? (i := 782) (by decide +kernel)) (by decide +kernel)
theorem wd734 : (Jvm.Cond.code ({ cls := "ShortVectorsModel", name := "list", desc := "()V" } : Jvm.MethodName) prog_9_method_37_code (3 : Nat) (Option.none : Option Jvm.ClassFile.FieldType)) ∈ utbl := u_mem (List.mem_of_getElem? (i := 783) (by decide +kernel)) (by decide +kernel)
theorem wd735 : (Jvm.Cond.methodLink "ShortVectorsLaw" (56 : Nat) ({ cls := "ShortVectorsModel", name := "minimum", desc := "(I)I" } : Jvm.MethodName)) ∈ utbl := u_mem (List.mem_of_getElem? (i := 784) (by decide +kernel)) (by decide +kernel)
theorem wd736 : (Jvm.Cond.instanceMethod ({ cls := "ShortVectorsModel", name := "minimum", desc := "(I)I" } : Jvm.MethodName)) ∈ utbl := u_mem (List.mem_of_getElem? (i := 785) (by decide +kernel)) (by decide +kernel)
theorem wd737 : (Jvm.Cond.selects "ShortVectorsModel" ({ cls := "ShortVectorsModel", name := "minimum", desc := "(I)I" } : Jvm.MethodName) ({ cls := "ShortVectorsModel", name := "minimum", desc := "(I)I" } : Jvm.MethodName)) ∈ utbl := u_mem (List.mem_of_getElem? (i := 786) (by decide +kernel)) (by decide +kernel)
theorem wd738 : (Jvm.Cond.code ({ cls := "ShortVectorsModel", name := "minimum", desc := "(I)I" } : Jvm.MethodName) prog_9_method_44_code (2 : Nat) (Option.some Jvm.ClassFile.FieldType.int)) ∈ utbl := u_mem (List.mem_of_getElem? (i := 787) (by decide +kernel)) (by decide +kernel)
theorem wd739 : (Jvm.Cond.methodLink "ShortVectorsModel" (207 : Nat) ({ cls := "ShortVectorsModel", name := "measure", desc := "()V" } : Jvm.MethodName)) ∈ utbl := u_mem (List.mem_of_getElem? (i := 788) (by decide +kernel)) (by decide +kernel)
theorem wd741 : (Jvm.Cond.instanceMethod ({ cls := "ShortVectorsModel", name := "measure", desc := "()V" } : Jvm.MethodName)) ∈ utbl := u_mem (List.mem_of_getElem? (i := 790) (by decide +kernel)) (by decide +kernel)
theorem wd742 : (Jvm.Cond.code ({ cls := "ShortVectorsModel", name := "measure", desc := "()V" } : Jvm.MethodName) prog_9_method_43_code (6 : Nat) (Option.none : Option Jvm.ClassFile.FieldType)) ∈ utbl := u_mem (List.mem_of_getElem? (i := 791) (by decide +kernel)) (by decide +kernel)
theorem wd743 : (Jvm.Cond.methodLink "ShortVectorsModel" (203 : Nat) ({ cls := "ShortVectorsModel", name := "reaches", desc := "(II)Z" } : Jvm.MethodName)) ∈ utbl := u_mem (List.mem_of_getElem? (i := 792) (by decide +kernel)) (by decide +kernel)
theorem wd745 : (Jvm.Cond.instanceMethod ({ cls := "ShortVectorsModel", name := "reaches", desc := "(II)Z" } : Jvm.MethodName)) ∈ utbl := u_mem (List.mem_of_getElem? (i := 794) (by decide +kernel)) (by decide +kernel)
theorem wd746 : (Jvm.Cond.code ({ cls := "ShortVectorsModel", name := "reaches", desc := "(II)Z" } : Jvm.MethodName) prog_9_method_42_code (3 : Nat) (Option.some Jvm.ClassFile.FieldType.boolean)) ∈ utbl := u_mem (List.mem_of_getElem? (i := 795) (by decide +kernel)) (by decide +kernel)
theorem wd747 : (Jvm.Cond.methodLink "ShortVectorsLaw" (69 : Nat) ({ cls := "ShortVectorsModel", name := "distance", desc := "(IIII)I" } : Jvm.MethodName)) ∈ utbl := u_mem (List.mem_of_getElem? (i := 796) (by decide +kernel)) (by decide +kernel)
theorem wd748 : (Jvm.Cond.instanceMethod ({ cls := "ShortVectorsModel", name := "distance", desc := "(IIII)I" } : Jvm.MethodName)) ∈ utbl := u_mem (List.mem_of_getElem? (i := 797) (by decide +kernel)) (by decide +kernel)
theorem wd749 : (Jvm.Cond.selects "ShortVectorsModel" ({ cls := "ShortVectorsModel", name := "distance", desc := "(IIII)I" } : Jvm.MethodName) ({ cls := "ShortVectorsModel", name := "distance", desc := "(IIII)I" } : Jvm.MethodName)) ∈ utbl := u_mem (List.mem_of_getElem? (i := 798) (by decide +kernel)) (by decide +kernel)
theorem wd750 : (Jvm.Cond.code ({ cls := "ShortVectorsModel", name := "distance", desc := "(IIII)I" } : Jvm.MethodName) prog_9_method_47_code (5 : Nat) (Option.some Jvm.ClassFile.FieldType.int)) ∈ utbl := u_mem (List.mem_of_getElem? (i := 799) (by decide +kernel)) (by decide +kernel)
theorem wd751 : (Jvm.Cond.methodLink "ShortVectorsModel" (213 : Nat) ({ cls := "ShortVectorsModel", name := "seek", desc := "(IIII)V" } : Jvm.MethodName)) ∈ utbl := u_mem (List.mem_of_getElem? (i := 800) (by decide +kernel)) (by decide +kernel)
theorem wd753 : (Jvm.Cond.instanceMethod ({ cls := "ShortVectorsModel", name := "seek", desc := "(IIII)V" } : Jvm.MethodName)) ∈ utbl := u_mem (List.mem_of_getElem? (i := 802) (by decide +kernel)) (by decide +kernel)
theorem wd754 : (Jvm.Cond.code ({ cls := "ShortVectorsModel", name := "seek", desc := "(IIII)V" } : Jvm.MethodName) prog_9_method_46_code (7 : Nat) (Option.none : Option Jvm.ClassFile.FieldType)) ∈ utbl := u_mem (List.mem_of_getElem? (i := 803) (by decide +kernel)) (by decide +kernel)
theorem wd755 : (Jvm.Cond.methodLink "ShortVectorsLaw" (74 : Nat) ({ cls := "ShortVectorsModel", name := "nearest", desc := "(IIIII)I" } : Jvm.MethodName)) ∈ utbl := u_mem (List.mem_of_getElem? (i := 804) (by decide +kernel)) (by decide +kernel)
theorem wd756 : (Jvm.Cond.instanceMethod ({ cls := "ShortVectorsModel", name := "nearest", desc := "(IIIII)I" } : Jvm.MethodName)) ∈ utbl := u_mem (List.mem_of_getElem? (i := 805) (by decide +kernel)) (by decide +kernel)
theorem wd757 : (Jvm.Cond.selects "ShortVectorsModel" ({ cls := "ShortVectorsModel", name := "nearest", desc := "(IIIII)I" } : Jvm.MethodName) ({ cls := "ShortVectorsModel", name := "nearest", desc := "(IIIII)I" } : Jvm.MethodName)) ∈ utbl := u_mem (List.mem_of_getElem? (i := 806) (by decide +kernel)) (by decide +kernel)
theorem wd758 : (Jvm.Cond.code ({ cls := "ShortVectorsModel", name := "nearest", desc := "(IIIII)I" } : Jvm.MethodName) prog_9_method_48_code (6 : Nat) (Option.some Jvm.ClassFile.FieldType.int)) ∈ utbl := u_mem (List.mem_of_getElem? (i := 807) (by decide +kernel)) (by decide +kernel)
theorem wd759 : (Jvm.Cond.sameMethod "ShortVectors$Collector" "ShortVectors$Collector" "wants" "(J)Z") ∈ utbl := u_mem (List.mem_of_getElem? (i := 808) (by decide +kernel)) (by decide +kernel)
theorem wd760 : (Jvm.Cond.selects "ShortVectors$Closest" ({ cls := "ShortVectors$Collector", name := "wants", desc := "(J)Z" } : Jvm.MethodName) ({ cls := "ShortVectors$Collector", name := "wants", desc := "(J)Z" } : Jvm.MethodName)) ∈ utbl := u_mem (List.mem_of_getElem? (i := 809) (by decide +kernel)) (by decide +kernel)
theorem wd761 : (Jvm.Cond.selects "ShortVectors$FirstVectors" ({ cls := "ShortVectors$Collector", name := "wants", desc := "(J)Z" } : Jvm.MethodName) ({ cls := "ShortVectors$Collector", name := "wants", desc := "(J)Z" } : Jvm.MethodName)) ∈ utbl := u_mem (List.mem_of_getElem? (i := 810) (by decide +kernel)) (by decide +kernel)
theorem wd762 : (Jvm.Cond.selects "ShortVectors$Tally" ({ cls := "ShortVectors$Collector", name := "wants", desc := "(J)Z" } : Jvm.MethodName) ({ cls := "ShortVectors$Collector", name := "wants", desc := "(J)Z" } : Jvm.MethodName)) ∈ utbl := u_mem (List.mem_of_getElem? (i := 811) (by decide +kernel)) (by decide +kernel)
theorem ws0 : Cond.selects "ShortVectors" ⟨"ShortVectors", "ask", "(IIIII)Z"⟩ ⟨"ShortVectors", "ask", "(IIIII)Z"⟩ ∈ utbl := u_mem (List.mem_of_getElem? (i := 0) (by decide +kernel)) (by decide +kernel)
theorem ws1 : Cond.selects "ShortVectors$Echelon" ⟨"ShortVectors$Echelon", "merge", "([JI)V"⟩ ⟨"ShortVectors$Echelon", "merge", "([JI)V"⟩ ∈ utbl := u_mem (List.mem_of_getElem? (i := 1) (by decide +kernel)) (by decide +kernel)
theorem ws2 : Cond.selects "ShortVectors$Echelon" ⟨"ShortVectors$Echelon", "shorten", "(I)V"⟩ ⟨"ShortVectors$Echelon", "shorten", "(I)V"⟩ ∈ utbl := u_mem (List.mem_of_getElem? (i := 2) (by decide +kernel)) (by decide +kernel)
theorem ws3 : Cond.selects "ShortVectors" ⟨"ShortVectors", "forget", "()V"⟩ ⟨"ShortVectors", "forget", "()V"⟩ ∈ utbl := u_mem (List.mem_of_getElem? (i := 3) (by decide +kernel)) (by decide +kernel)
theorem ws4 : Cond.selects "ShortVectors" ⟨"ShortVectors", "gather", "(LShortVectors$Echelon;I)V"⟩ ⟨"ShortVectors", "gather", "(LShortVectors$Echelon;I)V"⟩ ∈ utbl := u_mem (List.mem_of_getElem? (i := 4) (by decide +kernel)) (by decide +kernel)
theorem ws5 : Cond.selects "ShortVectors" ⟨"ShortVectors", "readyBasis", "()LShortVectors$Basis;"⟩ ⟨"ShortVectors", "readyBasis", "()LShortVectors$Basis;"⟩ ∈ utbl := u_mem (List.mem_of_getElem? (i := 5) (by decide +kernel)) (by decide +kernel)
theorem ws6 : Cond.selects "ShortVectors$Basis" ⟨"ShortVectors$Basis", "reduce", "()V"⟩ ⟨"ShortVectors$Basis", "reduce", "()V"⟩ ∈ utbl := u_mem (List.mem_of_getElem? (i := 6) (by decide +kernel)) (by decide +kernel)
theorem ws7 : Cond.selects "ShortVectors$Basis" ⟨"ShortVectors$Basis", "shortenByPairs", "()Z"⟩ ⟨"ShortVectors$Basis", "shortenByPairs", "()Z"⟩ ∈ utbl := u_mem (List.mem_of_getElem? (i := 7) (by decide +kernel)) (by decide +kernel)
theorem ws8 : Cond.selects "ShortVectors$Basis" ⟨"ShortVectors$Basis", "shortenBy", "(II)Z"⟩ ⟨"ShortVectors$Basis", "shortenBy", "(II)Z"⟩ ∈ utbl := u_mem (List.mem_of_getElem? (i := 8) (by decide +kernel)) (by decide +kernel)
theorem ws9 : Cond.selects "ShortVectors$Basis" ⟨"ShortVectors$Basis", "shortenBySums", "()Z"⟩ ⟨"ShortVectors$Basis", "shortenBySums", "()Z"⟩ ∈ utbl := u_mem (List.mem_of_getElem? (i := 9) (by decide +kernel)) (by decide +kernel)
theorem ws10 : Cond.selects "ShortVectors$Basis" ⟨"ShortVectors$Basis", "shortenByChoice", "(II)Z"⟩ ⟨"ShortVectors$Basis", "shortenByChoice", "(II)Z"⟩ ∈ utbl := u_mem (List.mem_of_getElem? (i := 10) (by decide +kernel)) (by decide +kernel)
theorem ws11 : Cond.selects "ShortVectors$Basis" ⟨"ShortVectors$Basis", "sort", "()V"⟩ ⟨"ShortVectors$Basis", "sort", "()V"⟩ ∈ utbl := u_mem (List.mem_of_getElem? (i := 11) (by decide +kernel)) (by decide +kernel)
theorem ws12 : Cond.selects "ShortVectors$Basis" ⟨"ShortVectors$Basis", "direct", "(I)V"⟩ ⟨"ShortVectors$Basis", "direct", "(I)V"⟩ ∈ utbl := u_mem (List.mem_of_getElem? (i := 12) (by decide +kernel)) (by decide +kernel)
theorem ws13 : Cond.selects "ShortVectors$Basis" ⟨"ShortVectors$Basis", "eliminate", "(IJ)V"⟩ ⟨"ShortVectors$Basis", "eliminate", "(IJ)V"⟩ ∈ utbl := u_mem (List.mem_of_getElem? (i := 13) (by decide +kernel)) (by decide +kernel)
theorem ws14 : Cond.selects "ShortVectors$Basis" ⟨"ShortVectors$Basis", "squareOutside", "([J)J"⟩ ⟨"ShortVectors$Basis", "squareOutside", "([J)J"⟩ ∈ utbl := u_mem (List.mem_of_getElem? (i := 14) (by decide +kernel)) (by decide +kernel)
theorem ws15 : Cond.selects "ShortVectors$Basis" ⟨"ShortVectors$Basis", "descend", "(IJLShortVectors$Collector;)V"⟩ ⟨"ShortVectors$Basis", "descend", "(IJLShortVectors$Collector;)V"⟩ ∈ utbl := u_mem (List.mem_of_getElem? (i := 15) (by decide +kernel)) (by decide +kernel)
theorem ws16 : Cond.selects "ShortVectors$FirstVectors" ⟨"ShortVectors$FirstVectors", "precedes", "([JJI)Z"⟩ ⟨"ShortVectors$FirstVectors", "precedes", "([JJI)Z"⟩ ∈ utbl := u_mem (List.mem_of_getElem? (i := 16) (by decide +kernel)) (by decide +kernel)
theorem ws17 : Cond.selects "ShortVectors$FirstVectors" ⟨"ShortVectors$FirstVectors", "insert", "([JJI)V"⟩ ⟨"ShortVectors$FirstVectors", "insert", "([JJI)V"⟩ ∈ utbl := u_mem (List.mem_of_getElem? (i := 17) (by decide +kernel)) (by decide +kernel)
theorem ws18 : Cond.selects "ShortVectors$Basis" ⟨"ShortVectors$Basis", "walk", "(IJIJLShortVectors$Collector;)V"⟩ ⟨"ShortVectors$Basis", "walk", "(IJIJLShortVectors$Collector;)V"⟩ ∈ utbl := u_mem (List.mem_of_getElem? (i := 18) (by decide +kernel)) (by decide +kernel)
theorem ws19 : Cond.selects "ShortVectorsModel" ⟨"ShortVectorsModel", "changed", "()V"⟩ ⟨"ShortVectorsModel", "changed", "()V"⟩ ∈ utbl := u_mem (List.mem_of_getElem? (i := 19) (by decide +kernel)) (by decide +kernel)
theorem ws20 : Cond.selects "ShortVectorsModel" ⟨"ShortVectorsModel", "look", "(I)V"⟩ ⟨"ShortVectorsModel", "look", "(I)V"⟩ ∈ utbl := u_mem (List.mem_of_getElem? (i := 20) (by decide +kernel)) (by decide +kernel)
theorem ws21 : Cond.selects "ShortVectorsModel" ⟨"ShortVectorsModel", "enter", "()V"⟩ ⟨"ShortVectorsModel", "enter", "()V"⟩ ∈ utbl := u_mem (List.mem_of_getElem? (i := 21) (by decide +kernel)) (by decide +kernel)
theorem ws22 : Cond.selects "ShortVectorsModel" ⟨"ShortVectorsModel", "rowAt", "(I)I"⟩ ⟨"ShortVectorsModel", "rowAt", "(I)I"⟩ ∈ utbl := u_mem (List.mem_of_getElem? (i := 22) (by decide +kernel)) (by decide +kernel)
theorem ws23 : Cond.selects "ShortVectorsModel" ⟨"ShortVectorsModel", "tidy", "(I)V"⟩ ⟨"ShortVectorsModel", "tidy", "(I)V"⟩ ∈ utbl := u_mem (List.mem_of_getElem? (i := 23) (by decide +kernel)) (by decide +kernel)
theorem ws24 : Cond.selects "ShortVectorsModel" ⟨"ShortVectorsModel", "insert", "(I)V"⟩ ⟨"ShortVectorsModel", "insert", "(I)V"⟩ ∈ utbl := u_mem (List.mem_of_getElem? (i := 24) (by decide +kernel)) (by decide +kernel)
theorem ws25 : Cond.selects "ShortVectorsModel" ⟨"ShortVectorsModel", "divide", "(I)V"⟩ ⟨"ShortVectorsModel", "divide", "(I)V"⟩ ∈ utbl := u_mem (List.mem_of_getElem? (i := 25) (by decide +kernel)) (by decide +kernel)
theorem ws26 : Cond.selects "ShortVectorsModel" ⟨"ShortVectorsModel", "swap", "(I)V"⟩ ⟨"ShortVectorsModel", "swap", "(I)V"⟩ ∈ utbl := u_mem (List.mem_of_getElem? (i := 26) (by decide +kernel)) (by decide +kernel)
theorem ws27 : Cond.selects "ShortVectorsModel" ⟨"ShortVectorsModel", "two", "(IIII)J"⟩ ⟨"ShortVectorsModel", "two", "(IIII)J"⟩ ∈ utbl := u_mem (List.mem_of_getElem? (i := 27) (by decide +kernel)) (by decide +kernel)
theorem ws28 : Cond.selects "ShortVectorsModel" ⟨"ShortVectorsModel", "three", "(III)J"⟩ ⟨"ShortVectorsModel", "three", "(III)J"⟩ ∈ utbl := u_mem (List.mem_of_getElem? (i := 28) (by decide +kernel)) (by decide +kernel)
theorem ws29 : Cond.selects "ShortVectorsModel" ⟨"ShortVectorsModel", "set", "(IIII)V"⟩ ⟨"ShortVectorsModel", "set", "(IIII)V"⟩ ∈ utbl := u_mem (List.mem_of_getElem? (i := 29) (by decide +kernel)) (by decide +kernel)
theorem ws30 : Cond.selects "ShortVectorsModel" ⟨"ShortVectorsModel", "times", "()J"⟩ ⟨"ShortVectorsModel", "times", "()J"⟩ ∈ utbl := u_mem (List.mem_of_getElem? (i := 30) (by decide +kernel)) (by decide +kernel)
theorem ws31 : Cond.selects "ShortVectorsModel" ⟨"ShortVectorsModel", "origin", "()V"⟩ ⟨"ShortVectorsModel", "origin", "()V"⟩ ∈ utbl := u_mem (List.mem_of_getElem? (i := 31) (by decide +kernel)) (by decide +kernel)
theorem ws32 : Cond.selects "ShortVectorsModel" ⟨"ShortVectorsModel", "walk", "(IJ)V"⟩ ⟨"ShortVectorsModel", "walk", "(IJ)V"⟩ ∈ utbl := u_mem (List.mem_of_getElem? (i := 32) (by decide +kernel)) (by decide +kernel)
theorem ws33 : Cond.selects "ShortVectorsModel" ⟨"ShortVectorsModel", "open", "(I)I"⟩ ⟨"ShortVectorsModel", "open", "(I)I"⟩ ∈ utbl := u_mem (List.mem_of_getElem? (i := 33) (by decide +kernel)) (by decide +kernel)
theorem ws34 : Cond.selects "ShortVectorsModel" ⟨"ShortVectorsModel", "visit", "(IJ)V"⟩ ⟨"ShortVectorsModel", "visit", "(IJ)V"⟩ ∈ utbl := u_mem (List.mem_of_getElem? (i := 34) (by decide +kernel)) (by decide +kernel)
theorem ws35 : Cond.selects "ShortVectorsModel" ⟨"ShortVectorsModel", "sortIn", "(IJ)V"⟩ ⟨"ShortVectorsModel", "sortIn", "(IJ)V"⟩ ∈ utbl := u_mem (List.mem_of_getElem? (i := 35) (by decide +kernel)) (by decide +kernel)
theorem ws36 : Cond.selects "ShortVectorsModel" ⟨"ShortVectorsModel", "before", "(IJI)Z"⟩ ⟨"ShortVectorsModel", "before", "(IJI)Z"⟩ ∈ utbl := u_mem (List.mem_of_getElem? (i := 36) (by decide +kernel)) (by decide +kernel)
theorem ws37 : Cond.selects "ShortVectorsModel" ⟨"ShortVectorsModel", "extend", "(I)V"⟩ ⟨"ShortVectorsModel", "extend", "(I)V"⟩ ∈ utbl := u_mem (List.mem_of_getElem? (i := 37) (by decide +kernel)) (by decide +kernel)
theorem ws38 : Cond.selects "ShortVectorsModel" ⟨"ShortVectorsModel", "lead", "(I)I"⟩ ⟨"ShortVectorsModel", "lead", "(I)I"⟩ ∈ utbl := u_mem (List.mem_of_getElem? (i := 38) (by decide +kernel)) (by decide +kernel)
theorem ws39 : Cond.selects "ShortVectorsModel" ⟨"ShortVectorsModel", "shrink", "()V"⟩ ⟨"ShortVectorsModel", "shrink", "()V"⟩ ∈ utbl := u_mem (List.mem_of_getElem? (i := 39) (by decide +kernel)) (by decide +kernel)
theorem ws40 : Cond.selects "ShortVectorsModel" ⟨"ShortVectorsModel", "compare", "(IJ)V"⟩ ⟨"ShortVectorsModel", "compare", "(IJ)V"⟩ ∈ utbl := u_mem (List.mem_of_getElem? (i := 40) (by decide +kernel)) (by decide +kernel)
theorem ws41 : Cond.selects "ShortVectorsModel" ⟨"ShortVectorsModel", "finish", "(I)V"⟩ ⟨"ShortVectorsModel", "finish", "(I)V"⟩ ∈ utbl := u_mem (List.mem_of_getElem? (i := 41) (by decide +kernel)) (by decide +kernel)
theorem ws42 : Cond.selects "ShortVectorsModel" ⟨"ShortVectorsModel", "along", "(IJJ)V"⟩ ⟨"ShortVectorsModel", "along", "(IJJ)V"⟩ ∈ utbl := u_mem (List.mem_of_getElem? (i := 42) (by decide +kernel)) (by decide +kernel)
theorem ws43 : Cond.selects "ShortVectorsModel" ⟨"ShortVectorsModel", "take", "(I)V"⟩ ⟨"ShortVectorsModel", "take", "(I)V"⟩ ∈ utbl := u_mem (List.mem_of_getElem? (i := 43) (by decide +kernel)) (by decide +kernel)
theorem ws44 : Cond.selects "ShortVectorsModel" ⟨"ShortVectorsModel", "range", "(I)V"⟩ ⟨"ShortVectorsModel", "range", "(I)V"⟩ ∈ utbl := u_mem (List.mem_of_getElem? (i := 44) (by decide +kernel)) (by decide +kernel)
theorem ws45 : Cond.selects "ShortVectorsModel" ⟨"ShortVectorsModel", "list", "()V"⟩ ⟨"ShortVectorsModel", "list", "()V"⟩ ∈ utbl := u_mem (List.mem_of_getElem? (i := 45) (by decide +kernel)) (by decide +kernel)
theorem ws46 : Cond.selects "ShortVectorsModel" ⟨"ShortVectorsModel", "measure", "()V"⟩ ⟨"ShortVectorsModel", "measure", "()V"⟩ ∈ utbl := u_mem (List.mem_of_getElem? (i := 46) (by decide +kernel)) (by decide +kernel)
theorem ws47 : Cond.selects "ShortVectorsModel" ⟨"ShortVectorsModel", "reaches", "(II)Z"⟩ ⟨"ShortVectorsModel", "reaches", "(II)Z"⟩ ∈ utbl := u_mem (List.mem_of_getElem? (i := 47) (by decide +kernel)) (by decide +kernel)
theorem ws48 : Cond.selects "ShortVectorsModel" ⟨"ShortVectorsModel", "seek", "(IIII)V"⟩ ⟨"ShortVectorsModel", "seek", "(IIII)V"⟩ ∈ utbl := u_mem (List.mem_of_getElem? (i := 48) (by decide +kernel)) (by decide +kernel)
abbrev cV_init : ByteArray := prog_1_method_1_code
def yV_init : MethodName := ⟨"ShortVectors", "<init>", "()V"⟩
abbrev cJO_init : ByteArray := object_method_1_code
def yJO_init : MethodName := ⟨"java/lang/Object", "<init>", "()V"⟩
abbrev cE_init : ByteArray := prog_5_method_1_code
def yE_init : MethodName := ⟨"ShortVectors$Echelon", "<init>", "()V"⟩
abbrev cB_init : ByteArray := prog_2_method_1_code
def yB_init : MethodName := ⟨"ShortVectors$Basis", "<init>", "()V"⟩
abbrev cT_init : ByteArray := prog_7_method_1_code
def yT_init : MethodName := ⟨"ShortVectors$Tally", "<init>", "()V"⟩
abbrev cK_init : ByteArray := prog_4_method_1_code
def yK_init : MethodName := ⟨"ShortVectors$Collector", "<init>", "()V"⟩
abbrev cF_init : ByteArray := prog_6_method_1_code
def yF_init : MethodName := ⟨"ShortVectors$FirstVectors", "<init>", "()V"⟩
abbrev cC_init : ByteArray := prog_3_method_1_code
def yC_init : MethodName := ⟨"ShortVectors$Closest", "<init>", "()V"⟩
abbrev cV_add : ByteArray := prog_1_method_2_code
def yV_add : MethodName := ⟨"ShortVectors", "add", "(IIII)I"⟩
abbrev cV_ask : ByteArray := prog_1_method_15_code
def yV_ask : MethodName := ⟨"ShortVectors", "ask", "(IIIII)Z"⟩
abbrev cV_copy : ByteArray := prog_1_method_20_code
def yV_copy : MethodName := ⟨"ShortVectors", "copy", "([J[J)V"⟩
abbrev cE_include : ByteArray := prog_5_method_6_code
def yE_include : MethodName := ⟨"ShortVectors$Echelon", "include", "([J)V"⟩
abbrev cE_merge : ByteArray := prog_5_method_7_code
def yE_merge : MethodName := ⟨"ShortVectors$Echelon", "merge", "([JI)V"⟩
abbrev cV_addMultiple : ByteArray := prog_1_method_21_code
def yV_addMultiple : MethodName := ⟨"ShortVectors", "addMultiple", "([J[JJ)V"⟩
abbrev cE_shorten : ByteArray := prog_5_method_8_code
def yE_shorten : MethodName := ⟨"ShortVectors$Echelon", "shorten", "(I)V"⟩
abbrev cE_isHeld : ByteArray := prog_5_method_4_code
def yE_isHeld : MethodName := ⟨"ShortVectors$Echelon", "isHeld", "(I)Z"⟩
abbrev cJM_floorDiv : ByteArray := prog_10_method_49_code
def yJM_floorDiv : MethodName := ⟨"java/lang/Math", "floorDiv", "(JJ)J"⟩
abbrev cV_forget : ByteArray := prog_1_method_17_code
def yV_forget : MethodName := ⟨"ShortVectors", "forget", "()V"⟩
abbrev cV_drop : ByteArray := prog_1_method_3_code
def yV_drop : MethodName := ⟨"ShortVectors", "drop", "()Z"⟩
abbrev cV_gather : ByteArray := prog_1_method_16_code
def yV_gather : MethodName := ⟨"ShortVectors", "gather", "(LShortVectors$Echelon;I)V"⟩
abbrev cE_clear : ByteArray := prog_5_method_2_code
def yE_clear : MethodName := ⟨"ShortVectors$Echelon", "clear", "()V"⟩
abbrev cJA_fillJ : ByteArray := prog_12_method_101_code
def yJA_fillJ : MethodName := ⟨"java/util/Arrays", "fill", "([JJ)V"⟩
abbrev cV_generators : ByteArray := prog_1_method_4_code
def yV_generators : MethodName := ⟨"ShortVectors", "generators", "()I"⟩
abbrev cV_rank : ByteArray := prog_1_method_5_code
def yV_rank : MethodName := ⟨"ShortVectors", "rank", "()I"⟩
abbrev cE_size : ByteArray := prog_5_method_3_code
def yE_size : MethodName := ⟨"ShortVectors$Echelon", "size", "()I"⟩
abbrev cV_volume : ByteArray := prog_1_method_6_code
def yV_volume : MethodName := ⟨"ShortVectors", "volume", "()J"⟩
abbrev cV_readyBasis : ByteArray := prog_1_method_18_code
def yV_readyBasis : MethodName := ⟨"ShortVectors", "readyBasis", "()LShortVectors$Basis;"⟩
abbrev cB_take : ByteArray := prog_2_method_2_code
def yB_take : MethodName := ⟨"ShortVectors$Basis", "take", "(LShortVectors$Echelon;)V"⟩
abbrev cE_row : ByteArray := prog_5_method_5_code
def yE_row : MethodName := ⟨"ShortVectors$Echelon", "row", "(I)[J"⟩
abbrev cB_reduce : ByteArray := prog_2_method_5_code
def yB_reduce : MethodName := ⟨"ShortVectors$Basis", "reduce", "()V"⟩
abbrev cB_shortenByPairs : ByteArray := prog_2_method_6_code
def yB_shortenByPairs : MethodName := ⟨"ShortVectors$Basis", "shortenByPairs", "()Z"⟩
abbrev cB_shortenBy : ByteArray := prog_2_method_7_code
def yB_shortenBy : MethodName := ⟨"ShortVectors$Basis", "shortenBy", "(II)Z"⟩
abbrev cV_product : ByteArray := prog_1_method_22_code
def yV_product : MethodName := ⟨"ShortVectors", "product", "([J[J)J"⟩
abbrev cJM_abs : ByteArray := prog_10_method_61_code
def yJM_abs : MethodName := ⟨"java/lang/Math", "abs", "(J)J"⟩
abbrev cV_nearestQuotient : ByteArray := prog_1_method_25_code
def yV_nearestQuotient : MethodName := ⟨"ShortVectors", "nearestQuotient", "(JJ)J"⟩
abbrev cB_shortenBySums : ByteArray := prog_2_method_8_code
def yB_shortenBySums : MethodName := ⟨"ShortVectors$Basis", "shortenBySums", "()Z"⟩
abbrev cB_shortenByChoice : ByteArray := prog_2_method_9_code
def yB_shortenByChoice : MethodName := ⟨"ShortVectors$Basis", "shortenByChoice", "(II)Z"⟩
abbrev cB_sort : ByteArray := prog_2_method_10_code
def yB_sort : MethodName := ⟨"ShortVectors$Basis", "sort", "()V"⟩
abbrev cB_squareOf : ByteArray := prog_2_method_3_code
def yB_squareOf : MethodName := ⟨"ShortVectors$Basis", "squareOf", "(I)J"⟩
abbrev cB_direct : ByteArray := prog_2_method_11_code
def yB_direct : MethodName := ⟨"ShortVectors$Basis", "direct", "(I)V"⟩
abbrev cB_turnAway : ByteArray := prog_2_method_12_code
def yB_turnAway : MethodName := ⟨"ShortVectors$Basis", "turnAway", "([J[JJ)V"⟩
abbrev cV_commonDivisor : ByteArray := prog_1_method_24_code
def yV_commonDivisor : MethodName := ⟨"ShortVectors", "commonDivisor", "(JJ)J"⟩
abbrev cJM_max : ByteArray := prog_10_method_66_code
def yJM_max : MethodName := ⟨"java/lang/Math", "max", "(JJ)J"⟩
abbrev cB_volumeSquared : ByteArray := prog_2_method_13_code
def yB_volumeSquared : MethodName := ⟨"ShortVectors$Basis", "volumeSquared", "()J"⟩
abbrev cB_eliminate : ByteArray := prog_2_method_14_code
def yB_eliminate : MethodName := ⟨"ShortVectors$Basis", "eliminate", "(IJ)V"⟩
abbrev cV_spare : ByteArray := prog_1_method_7_code
def yV_spare : MethodName := ⟨"ShortVectors", "spare", "(I)Z"⟩
abbrev cE_holds : ByteArray := prog_5_method_9_code
def yE_holds : MethodName := ⟨"ShortVectors$Echelon", "holds", "([J)Z"⟩
abbrev cE_leastMultiplier : ByteArray := prog_5_method_10_code
def yE_leastMultiplier : MethodName := ⟨"ShortVectors$Echelon", "leastMultiplier", "([J)J"⟩
abbrev cV_has : ByteArray := prog_1_method_8_code
def yV_has : MethodName := ⟨"ShortVectors", "has", "(IIII)Z"⟩
abbrev cV_order : ByteArray := prog_1_method_9_code
def yV_order : MethodName := ⟨"ShortVectors", "order", "(IIII)J"⟩
abbrev cV_minimum : ByteArray := prog_1_method_10_code
def yV_minimum : MethodName := ⟨"ShortVectors", "minimum", "(I)I"⟩
abbrev cV_count : ByteArray := prog_1_method_11_code
def yV_count : MethodName := ⟨"ShortVectors", "count", "(I)I"⟩
abbrev cT_fillJ : ByteArray := prog_7_method_2_code
def yT_fillJ : MethodName := ⟨"ShortVectors$Tally", "fill", "(LShortVectors$Basis;)V"⟩
abbrev cJA_fillI : ByteArray := prog_12_method_103_code
def yJA_fillI : MethodName := ⟨"java/util/Arrays", "fill", "([II)V"⟩
abbrev cK_setBudget : ByteArray := prog_4_method_3_code
def yK_setBudget : MethodName := ⟨"ShortVectors$Collector", "setBudget", "(J)V"⟩
abbrev cB_search : ByteArray := prog_2_method_15_code
def yB_search : MethodName := ⟨"ShortVectors$Basis", "search", "(LShortVectors$Collector;)V"⟩
abbrev cK_goal : ByteArray := prog_4_method_2_code
def yK_goal : MethodName := ⟨"ShortVectors$Collector", "goal", "()[J"⟩
abbrev cB_squareOutside : ByteArray := prog_2_method_16_code
def yB_squareOutside : MethodName := ⟨"ShortVectors$Basis", "squareOutside", "([J)J"⟩
abbrev cB_descend : ByteArray := prog_2_method_17_code
def yB_descend : MethodName := ⟨"ShortVectors$Basis", "descend", "(IJLShortVectors$Collector;)V"⟩
abbrev cC_meet : ByteArray := prog_3_method_5_code
def yC_meet : MethodName := ⟨"ShortVectors$Closest", "meet", "([JJ)V"⟩
abbrev cV_comesBefore : ByteArray := prog_1_method_23_code
def yV_comesBefore : MethodName := ⟨"ShortVectors", "comesBefore", "([J[J)Z"⟩
abbrev cF_meet : ByteArray := prog_6_method_4_code
def yF_meet : MethodName := ⟨"ShortVectors$FirstVectors", "meet", "([JJ)V"⟩
abbrev cK_wants : ByteArray := prog_4_method_4_code
def yK_wants : MethodName := ⟨"ShortVectors$Collector", "wants", "(J)Z"⟩
abbrev cF_precedes : ByteArray := prog_6_method_5_code
def yF_precedes : MethodName := ⟨"ShortVectors$FirstVectors", "precedes", "([JJI)Z"⟩
abbrev cF_insert : ByteArray := prog_6_method_6_code
def yF_insert : MethodName := ⟨"ShortVectors$FirstVectors", "insert", "([JJI)V"⟩
abbrev cJM_min : ByteArray := prog_10_method_69_code
def yJM_min : MethodName := ⟨"java/lang/Math", "min", "(II)I"⟩
abbrev cT_meet : ByteArray := prog_7_method_4_code
def yT_meet : MethodName := ⟨"ShortVectors$Tally", "meet", "([JJ)V"⟩
abbrev cB_walk : ByteArray := prog_2_method_18_code
def yB_walk : MethodName := ⟨"ShortVectors$Basis", "walk", "(IJIJLShortVectors$Collector;)V"⟩
abbrev cT_upTo : ByteArray := prog_7_method_3_code
def yT_upTo : MethodName := ⟨"ShortVectors$Tally", "upTo", "(I)I"⟩
abbrev cV_vector : ByteArray := prog_1_method_12_code
def yV_vector : MethodName := ⟨"ShortVectors", "vector", "(II)I"⟩
abbrev cV_isAxis : ByteArray := prog_1_method_19_code
def yV_isAxis : MethodName := ⟨"ShortVectors", "isAxis", "(I)Z"⟩
abbrev cF_fillJ : ByteArray := prog_6_method_2_code
def yF_fillJ : MethodName := ⟨"ShortVectors$FirstVectors", "fill", "(LShortVectors$Basis;)V"⟩
abbrev cB_leastSquare : ByteArray := prog_2_method_4_code
def yB_leastSquare : MethodName := ⟨"ShortVectors$Basis", "leastSquare", "()J"⟩
abbrev cF_coordinate : ByteArray := prog_6_method_3_code
def yF_coordinate : MethodName := ⟨"ShortVectors$FirstVectors", "coordinate", "(II)I"⟩
abbrev cV_distance : ByteArray := prog_1_method_13_code
def yV_distance : MethodName := ⟨"ShortVectors", "distance", "(IIII)I"⟩
abbrev cC_approach : ByteArray := prog_3_method_2_code
def yC_approach : MethodName := ⟨"ShortVectors$Closest", "approach", "(LShortVectors$Basis;[J)V"⟩
abbrev cC_leastSquare : ByteArray := prog_3_method_3_code
def yC_leastSquare : MethodName := ⟨"ShortVectors$Closest", "leastSquare", "()I"⟩
abbrev cV_nearest : ByteArray := prog_1_method_14_code
def yV_nearest : MethodName := ⟨"ShortVectors", "nearest", "(IIIII)I"⟩
abbrev cC_coordinate : ByteArray := prog_3_method_4_code
def yC_coordinate : MethodName := ⟨"ShortVectors$Closest", "coordinate", "(I)I"⟩
abbrev cM_init : ByteArray := prog_9_method_1_code
def yM_init : MethodName := ⟨"ShortVectorsModel", "<init>", "()V"⟩
abbrev cM_add : ByteArray := prog_9_method_4_code
def yM_add : MethodName := ⟨"ShortVectorsModel", "add", "(IIII)I"⟩
abbrev cM_within : ByteArray := prog_9_method_2_code
def yM_within : MethodName := ⟨"ShortVectorsModel", "within", "(IIIII)Z"⟩
abbrev cM_changed : ByteArray := prog_9_method_3_code
def yM_changed : MethodName := ⟨"ShortVectorsModel", "changed", "()V"⟩
abbrev cM_drop : ByteArray := prog_9_method_5_code
def yM_drop : MethodName := ⟨"ShortVectorsModel", "drop", "()Z"⟩
abbrev cM_generators : ByteArray := prog_9_method_6_code
def yM_generators : MethodName := ⟨"ShortVectorsModel", "generators", "()I"⟩
abbrev cM_rank : ByteArray := prog_9_method_18_code
def yM_rank : MethodName := ⟨"ShortVectorsModel", "rank", "()I"⟩
abbrev cM_look : ByteArray := prog_9_method_14_code
def yM_look : MethodName := ⟨"ShortVectorsModel", "look", "(I)V"⟩
abbrev cM_enter : ByteArray := prog_9_method_13_code
def yM_enter : MethodName := ⟨"ShortVectorsModel", "enter", "()V"⟩
abbrev cM_rowAt : ByteArray := prog_9_method_8_code
def yM_rowAt : MethodName := ⟨"ShortVectorsModel", "rowAt", "(I)I"⟩
abbrev cM_tidy : ByteArray := prog_9_method_9_code
def yM_tidy : MethodName := ⟨"ShortVectorsModel", "tidy", "(I)V"⟩
abbrev cM_under : ByteArray := prog_9_method_7_code
def yM_under : MethodName := ⟨"ShortVectorsModel", "under", "(JJ)J"⟩
abbrev cM_insert : ByteArray := prog_9_method_12_code
def yM_insert : MethodName := ⟨"ShortVectorsModel", "insert", "(I)V"⟩
abbrev cM_divide : ByteArray := prog_9_method_11_code
def yM_divide : MethodName := ⟨"ShortVectorsModel", "divide", "(I)V"⟩
abbrev cM_swap : ByteArray := prog_9_method_10_code
def yM_swap : MethodName := ⟨"ShortVectorsModel", "swap", "(I)V"⟩
abbrev cM_volume : ByteArray := prog_9_method_21_code
def yM_volume : MethodName := ⟨"ShortVectorsModel", "volume", "()J"⟩
abbrev cM_two : ByteArray := prog_9_method_19_code
def yM_two : MethodName := ⟨"ShortVectorsModel", "two", "(IIII)J"⟩
abbrev cM_three : ByteArray := prog_9_method_20_code
def yM_three : MethodName := ⟨"ShortVectorsModel", "three", "(III)J"⟩
abbrev cM_spare : ByteArray := prog_9_method_22_code
def yM_spare : MethodName := ⟨"ShortVectorsModel", "spare", "(I)Z"⟩
abbrev cM_set : ByteArray := prog_9_method_17_code
def yM_set : MethodName := ⟨"ShortVectorsModel", "set", "(IIII)V"⟩
abbrev cM_times : ByteArray := prog_9_method_15_code
def yM_times : MethodName := ⟨"ShortVectorsModel", "times", "()J"⟩
abbrev cM_common : ByteArray := prog_9_method_16_code
def yM_common : MethodName := ⟨"ShortVectorsModel", "common", "(JJ)J"⟩
abbrev cM_has : ByteArray := prog_9_method_23_code
def yM_has : MethodName := ⟨"ShortVectorsModel", "has", "(IIII)Z"⟩
abbrev cM_order : ByteArray := prog_9_method_24_code
def yM_order : MethodName := ⟨"ShortVectorsModel", "order", "(IIII)J"⟩
abbrev cM_count : ByteArray := prog_9_method_34_code
def yM_count : MethodName := ⟨"ShortVectorsModel", "count", "(I)I"⟩
abbrev cM_origin : ByteArray := prog_9_method_33_code
def yM_origin : MethodName := ⟨"ShortVectorsModel", "origin", "()V"⟩
abbrev cM_walk : ByteArray := prog_9_method_31_code
def yM_walk : MethodName := ⟨"ShortVectorsModel", "walk", "(IJ)V"⟩
abbrev cM_open : ByteArray := prog_9_method_27_code
def yM_open : MethodName := ⟨"ShortVectorsModel", "open", "(I)I"⟩
abbrev cM_visit : ByteArray := prog_9_method_32_code
def yM_visit : MethodName := ⟨"ShortVectorsModel", "visit", "(IJ)V"⟩
abbrev cM_sortIn : ByteArray := prog_9_method_36_code
def yM_sortIn : MethodName := ⟨"ShortVectorsModel", "sortIn", "(IJ)V"⟩
abbrev cM_before : ByteArray := prog_9_method_35_code
def yM_before : MethodName := ⟨"ShortVectorsModel", "before", "(IJI)Z"⟩
abbrev cM_extend : ByteArray := prog_9_method_39_code
def yM_extend : MethodName := ⟨"ShortVectorsModel", "extend", "(I)V"⟩
abbrev cM_lead : ByteArray := prog_9_method_40_code
def yM_lead : MethodName := ⟨"ShortVectorsModel", "lead", "(I)I"⟩
abbrev cM_shrink : ByteArray := prog_9_method_41_code
def yM_shrink : MethodName := ⟨"ShortVectorsModel", "shrink", "()V"⟩
abbrev cM_compare : ByteArray := prog_9_method_45_code
def yM_compare : MethodName := ⟨"ShortVectorsModel", "compare", "(IJ)V"⟩
abbrev cM_finish : ByteArray := prog_9_method_30_code
def yM_finish : MethodName := ⟨"ShortVectorsModel", "finish", "(I)V"⟩
abbrev cM_along : ByteArray := prog_9_method_29_code
def yM_along : MethodName := ⟨"ShortVectorsModel", "along", "(IJJ)V"⟩
abbrev cM_take : ByteArray := prog_9_method_28_code
def yM_take : MethodName := ⟨"ShortVectorsModel", "take", "(I)V"⟩
abbrev cM_range : ByteArray := prog_9_method_26_code
def yM_range : MethodName := ⟨"ShortVectorsModel", "range", "(I)V"⟩
abbrev cM_root : ByteArray := prog_9_method_25_code
def yM_root : MethodName := ⟨"ShortVectorsModel", "root", "(J)J"⟩
abbrev cM_vector : ByteArray := prog_9_method_38_code
def yM_vector : MethodName := ⟨"ShortVectorsModel", "vector", "(II)I"⟩
abbrev cM_list : ByteArray := prog_9_method_37_code
def yM_list : MethodName := ⟨"ShortVectorsModel", "list", "()V"⟩
abbrev cM_minimum : ByteArray := prog_9_method_44_code
def yM_minimum : MethodName := ⟨"ShortVectorsModel", "minimum", "(I)I"⟩
abbrev cM_measure : ByteArray := prog_9_method_43_code
def yM_measure : MethodName := ⟨"ShortVectorsModel", "measure", "()V"⟩
abbrev cM_reaches : ByteArray := prog_9_method_42_code
def yM_reaches : MethodName := ⟨"ShortVectorsModel", "reaches", "(II)Z"⟩
abbrev cM_distance : ByteArray := prog_9_method_47_code
def yM_distance : MethodName := ⟨"ShortVectorsModel", "distance", "(IIII)I"⟩
abbrev cM_seek : ByteArray := prog_9_method_46_code
def yM_seek : MethodName := ⟨"ShortVectorsModel", "seek", "(IIII)V"⟩
abbrev cM_nearest : ByteArray := prog_9_method_48_code
def yM_nearest : MethodName := ⟨"ShortVectorsModel", "nearest", "(IIIII)I"⟩
end
section
abbrev MS : Type := Int32 × (Nat → Int32) × Int32 × Int32 × Int32 × (Nat → Int64) × (Nat → Int32) × (Nat → Int64) × (Nat → Int64) × (Nat → Int64) × (Nat → Int64) × (Nat → Int64) × (Nat → Int64) × Int64 × Int32 × Int32 × Int32 × Int32 × (Nat → Int64) × (Nat → Int64) × Int32 × Int32 × (Nat → Int64) × (Nat → Int32) × Int32 × (Nat → Int64) × Int32
def m_many (τ : MS) : Int32 := τ.1
def m_generator (τ : MS) : Nat → Int32 := τ.2.1
def m_known (τ : MS) : Int32 := τ.2.2.1
def m_without (τ : MS) : Int32 := τ.2.2.2.1
def m_rows (τ : MS) : Int32 := τ.2.2.2.2.1
def m_row (τ : MS) : Nat → Int64 := τ.2.2.2.2.2.1
def m_pivot (τ : MS) : Nat → Int32 := τ.2.2.2.2.2.2.1
def m_fresh (τ : MS) : Nat → Int64 := τ.2.2.2.2.2.2.2.1
def m_multiple (τ : MS) : Nat → Int64 := τ.2.2.2.2.2.2.2.2.1
def m_last (τ : MS) : Nat → Int64 := τ.2.2.2.2.2.2.2.2.2.1
def m_made (τ : MS) : Nat → Int64 := τ.2.2.2.2.2.2.2.2.2.2.1
def m_settled (τ : MS) : Nat → Int64 := τ.2.2.2.2.2.2.2.2.2.2.2.1
def m_point (τ : MS) : Nat → Int64 := τ.2.2.2.2.2.2.2.2.2.2.2.2.1
def m_limit (τ : MS) : Int64 := τ.2.2.2.2.2.2.2.2.2.2.2.2.2.1
def m_mode (τ : MS) : Int32 := τ.2.2.2.2.2.2.2.2.2.2.2.2.2.2.1
def m_counted (τ : MS) : Int32 := τ.2.2.2.2.2.2.2.2.2.2.2.2.2.2.2.1
def m_listed (τ : MS) : Int32 := τ.2.2.2.2.2.2.2.2.2.2.2.2.2.2.2.2.1
def m_held (τ : MS) : Int32 := τ.2.2.2.2.2.2.2.2.2.2.2.2.2.2.2.2.2.1
def m_first (τ : MS) : Nat → Int64 := τ.2.2.2.2.2.2.2.2.2.2.2.2.2.2.2.2.2.2.1
def m_squares (τ : MS) : Nat → Int64 := τ.2.2.2.2.2.2.2.2.2.2.2.2.2.2.2.2.2.2.2.1
def m_wanted (τ : MS) : Int32 := τ.2.2.2.2.2.2.2.2.2.2.2.2.2.2.2.2.2.2.2.2.1
def m_spanned (τ : MS) : Int32 := τ.2.2.2.2.2.2.2.2.2.2.2.2.2.2.2.2.2.2.2.2.2.1
def m_span (τ : MS) : Nat → Int64 := τ.2.2.2.2.2.2.2.2.2.2.2.2.2.2.2.2.2.2.2.2.2.2.1
def m_minima (τ : MS) : Nat → Int32 := τ.2.2.2.2.2.2.2.2.2.2.2.2.2.2.2.2.2.2.2.2.2.2.2.1
def m_measured (τ : MS) : Int32 := τ.2.2.2.2.2.2.2.2.2.2.2.2.2.2.2.2.2.2.2.2.2.2.2.2.1
def m_found (τ : MS) : Nat → Int64 := τ.2.2.2.2.2.2.2.2.2.2.2.2.2.2.2.2.2.2.2.2.2.2.2.2.2.1
def m_any (τ : MS) : Int32 := τ.2.2.2.2.2.2.2.2.2.2.2.2.2.2.2.2.2.2.2.2.2.2.2.2.2.2
def s_many (τ : MS) (x : Int32) : MS := (x, τ.2.1, τ.2.2.1, τ.2.2.2.1, τ.2.2.2.2.1, τ.2.2.2.2.2.1, τ.2.2.2.2.2.2.1, τ.2.2.2.2.2.2.2.1, τ.2.2.2.2.2.2.2.2.1, τ.2.2.2.2.2.2.2.2.2.1, τ.2.2.2.2.2.2.2.2.2.2.1, τ.2.2.2.2.2.2.2.2.2.2.2.1, τ.2.2.2.2.2.2.2.2.2.2.2.2.1, τ.2.2.2.2.2.2.2.2.2.2.2.2.2.1, τ.2.2.2.2.2.2.2.2.2.2.2.2.2.2.1, τ.2.2.2.2.2.2.2.2.2.2.2.2.2.2.2.1, τ.2.2.2.2.2.2.2.2.2.2.2.2.2.2.2.2.1, τ.2.2.2.2.2.2.2.2.2.2.2.2.2.2.2.2.2.1, τ.2.2.2.2.2.2.2.2.2.2.2.2.2.2.2.2.2.2.1, τ.2.2.2.2.2.2.2.2.2.2.2.2.2.2.2.2.2.2.2.1, τ.2.2.2.2.2.2.2.2.2.2.2.2.2.2.2.2.2.2.2.2.1, τ.2.2.2.2.2.2.2.2.2.2.2.2.2.2.2.2.2.2.2.2.2.1, τ.2.2.2.2.2.2.2.2.2.2.2.2.2.2.2.2.2.2.2.2.2.2.1, τ.2.2.2.2.2.2.2.2.2.2.2.2.2.2.2.2.2.2.2.2.2.2.2.1, τ.2.2.2.2.2.2.2.2.2.2.2.2.2.2.2.2.2.2.2.2.2.2.2.2.1, τ.2.2.2.2.2.2.2.2.2.2.2.2.2.2.2.2.2.2.2.2.2.2.2.2.2.1, τ.2.2.2.2.2.2.2.2.2.2.2.2.2.2.2.2.2.2.2.2.2.2.2.2.2.2)
def s_generator (τ : MS) (x : Nat → Int32) : MS := (τ.1, x, τ.2.2.1, τ.2.2.2.1, τ.2.2.2.2.1, τ.2.2.2.2.2.1, τ.2.2.2.2.2.2.1, τ.2.2.2.2.2.2.2.1, τ.2.2.2.2.2.2.2.2.1, τ.2.2.2.2.2.2.2.2.2.1, τ.2.2.2.2.2.2.2.2.2.2.1, τ.2.2.2.2.2.2.2.2.2.2.2.1, τ.2.2.2.2.2.2.2.2.2.2.2.2.1, τ.2.2.2.2.2.2.2.2.2.2.2.2.2.1, τ.2.2.2.2.2.2.2.2.2.2.2.2.2.2.1, τ.2.2.2.2.2.2.2.2.2.2.2.2.2.2.2.1, τ.2.2.2.2.2.2.2.2.2.2.2.2.2.2.2.2.1, τ.2.2.2.2.2.2.2.2.2.2.2.2.2.2.2.2.2.1, τ.2.2.2.2.2.2.2.2.2.2.2.2.2.2.2.2.2.2.1, τ.2.2.2.2.2.2.2.2.2.2.2.2.2.2.2.2.2.2.2.1, τ.2.2.2.2.2.2.2.2.2.2.2.2.2.2.2.2.2.2.2.2.1, τ.2.2.2.2.2.2.2.2.2.2.2.2.2.2.2.2.2.2.2.2.2.1, τ.2.2.2.2.2.2.2.2.2.2.2.2.2.2.2.2.2.2.2.2.2.2.1, τ.2.2.2.2.2.2.2.2.2.2.2.2.2.2.2.2.2.2.2.2.2.2.2.1, τ.2.2.2.2.2.2.2.2.2.2.2.2.2.2.2.2.2.2.2.2.2.2.2.2.1, τ.2.2.2.2.2.2.2.2.2.2.2.2.2.2.2.2.2.2.2.2.2.2.2.2.2.1, τ.2.2.2.2.2.2.2.2.2.2.2.2.2.2.2.2.2.2.2.2.2.2.2.2.2.2)
def s_known (τ : MS) (x : Int32) : MS := (τ.1, τ.2.1, x, τ.2.2.2.1, τ.2.2.2.2.1, τ.2.2.2.2.2.1, τ.2.2.2.2.2.2.1, τ.2.2.2.2.2.2.2.1, τ.2.2.2.2.2.2.2.2.1, τ.2.2.2.2.2.2.2.2.2.1, τ.2.2.2.2.2.2.2.2.2.2.1, τ.2.2.2.2.2.2.2.2.2.2.2.1, τ.2.2.2.2.2.2.2.2.2.2.2.2.1, τ.2.2.2.2.2.2.2.2.2.2.2.2.2.1, τ.2.2.2.2.2.2.2.2.2.2.2.2.2.2.1, τ.2.2.2.2.2.2.2.2.2.2.2.2.2.2.2.1, τ.2.2.2.2.2.2.2.2.2.2.2.2.2.2.2.2.1, τ.2.2.2.2.2.2.2.2.2.2.2.2.2.2.2.2.2.1, τ.2.2.2.2.2.2.2.2.2.2.2.2.2.2.2.2.2.2.1, τ.2.2.2.2.2.2.2.2.2.2.2.2.2.2.2.2.2.2.2.1, τ.2.2.2.2.2.2.2.2.2.2.2.2.2.2.2.2.2.2.2.2.1, τ.2.2.2.2.2.2.2.2.2.2.2.2.2.2.2.2.2.2.2.2.2.1, τ.2.2.2.2.2.2.2.2.2.2.2.2.2.2.2.2.2.2.2.2.2.2.1, τ.2.2.2.2.2.2.2.2.2.2.2.2.2.2.2.2.2.2.2.2.2.2.2.1, τ.2.2.2.2.2.2.2.2.2.2.2.2.2.2.2.2.2.2.2.2.2.2.2.2.1, τ.2.2.2.2.2.2.2.2.2.2.2.2.2.2.2.2.2.2.2.2.2.2.2.2.2.1, τ.2.2.2.2.2.2.2.2.2.2.2.2.2.2.2.2.2.2.2.2.2.2.2.2.2.2)
def s_without (τ : MS) (x : Int32) : MS := (τ.1, τ.2.1, τ.2.2.1, x, τ.2.2.2.2.1, τ.2.2.2.2.2.1, τ.2.2.2.2.2.2.1, τ.2.2.2.2.2.2.2.1, τ.2.2.2.2.2.2.2.2.1, τ.2.2.2.2.2.2.2.2.2.1, τ.2.2.2.2.2.2.2.2.2.2.1, τ.2.2.2.2.2.2.2.2.2.2.2.1, τ.2.2.2.2.2.2.2.2.2.2.2.2.1, τ.2.2.2.2.2.2.2.2.2.2.2.2.2.1, τ.2.2.2.2.2.2.2.2.2.2.2.2.2.2.1, τ.2.2.2.2.2.2.2.2.2.2.2.2.2.2.2.1, τ.2.2.2.2.2.2.2.2.2.2.2.2.2.2.2.2.1, τ.2.2.2.2.2.2.2.2.2.2.2.2.2.2.2.2.2.1, τ.2.2.2.2.2.2.2.2.2.2.2.2.2.2.2.2.2.2.1, τ.2.2.2.2.2.2.2.2.2.2.2.2.2.2.2.2.2.2.2.1, τ.2.2.2.2.2.2.2.2.2.2.2.2.2.2.2.2.2.2.2.2.1, τ.2.2.2.2.2.2.2.2.2.2.2.2.2.2.2.2.2.2.2.2.2.1, τ.2.2.2.2.2.2.2.2.2.2.2.2.2.2.2.2.2.2.2.2.2.2.1, τ.2.2.2.2.2.2.2.2.2.2.2.2.2.2.2.2.2.2.2.2.2.2.2.1, τ.2.2.2.2.2.2.2.2.2.2.2.2.2.2.2.2.2.2.2.2.2.2.2.2.1, τ.2.2.2.2.2.2.2.2.2.2.2.2.2.2.2.2.2.2.2.2.2.2.2.2.2.1, τ.2.2.2.2.2.2.2.2.2.2.2.2.2.2.2.2.2.2.2.2.2.2.2.2.2.2)
def s_rows (τ : MS) (x : Int32) : MS := (τ.1, τ.2.1, τ.2.2.1, τ.2.2.2.1, x, τ.2.2.2.2.2.1, τ.2.2.2.2.2.2.1, τ.2.2.2.2.2.2.2.1, τ.2.2.2.2.2.2.2.2.1, τ.2.2.2.2.2.2.2.2.2.1, τ.2.2.2.2.2.2.2.2.2.2.1, τ.2.2.2.2.2.2.2.2.2.2.2.1, τ.2.2.2.2.2.2.2.2.2.2.2.2.1, τ.2.2.2.2.2.2.2.2.2.2.2.2.2.1, τ.2.2.2.2.2.2.2.2.2.2.2.2.2.2.1, τ.2.2.2.2.2.2.2.2.2.2.2.2.2.2.2.1, τ.2.2.2.2.2.2.2.2.2.2.2.2.2.2.2.2.1, τ.2.2.2.2.2.2.2.2.2.2.2.2.2.2.2.2.2.1, τ.2.2.2.2.2.2.2.2.2.2.2.2.2.2.2.2.2.2.1, τ.2.2.2.2.2.2.2.2.2.2.2.2.2.2.2.2.2.2.2.1, τ.2.2.2.2.2.2.2.2.2.2.2.2.2.2.2.2.2.2.2.2.1, τ.2.2.2.2.2.2.2.2.2.2.2.2.2.2.2.2.2.2.2.2.2.1, τ.2.2.2.2.2.2.2.2.2.2.2.2.2.2.2.2.2.2.2.2.2.2.1, τ.2.2.2.2.2.2.2.2.2.2.2.2.2.2.2.2.2.2.2.2.2.2.2.1, τ.2.2.2.2.2.2.2.2.2.2.2.2.2.2.2.2.2.2.2.2.2.2.2.2.1, τ.2.2.2.2.2.2.2.2.2.2.2.2.2.2.2.2.2.2.2.2.2.2.2.2.2.1, τ.2.2.2.2.2.2.2.2.2.2.2.2.2.2.2.2.2.2.2.2.2.2.2.2.2.2)
def s_row (τ : MS) (x : Nat → Int64) : MS := (τ.1, τ.2.1, τ.2.2.1, τ.2.2.2.1, τ.2.2.2.2.1, x, τ.2.2.2.2.2.2.1, τ.2.2.2.2.2.2.2.1, τ.2.2.2.2.2.2.2.2.1, τ.2.2.2.2.2.2.2.2.2.1, τ.2.2.2.2.2.2.2.2.2.2.1, τ.2.2.2.2.2.2.2.2.2.2.2.1, τ.2.2.2.2.2.2.2.2.2.2.2.2.1, τ.2.2.2.2.2.2.2.2.2.2.2.2.2.1, τ.2.2.2.2.2.2.2.2.2.2.2.2.2.2.1, τ.2.2.2.2.2.2.2.2.2.2.2.2.2.2.2.1, τ.2.2.2.2.2.2.2.2.2.2.2.2.2.2.2.2.1, τ.2.2.2.2.2.2.2.2.2.2.2.2.2.2.2.2.2.1, τ.2.2.2.2.2.2.2.2.2.2.2.2.2.2.2.2.2.2.1, τ.2.2.2.2.2.2.2.2.2.2.2.2.2.2.2.2.2.2.2.1, τ.2.2.2.2.2.2.2.2.2.2.2.2.2.2.2.2.2.2.2.2.1, τ.2.2.2.2.2.2.2.2.2.2.2.2.2.2.2.2.2.2.2.2.2.1, τ.2.2.2.2.2.2.2.2.2.2.2.2.2.2.2.2.2.2.2.2.2.2.1, τ.2.2.2.2.2.2.2.2.2.2.2.2.2.2.2.2.2.2.2.2.2.2.2.1, τ.2.2.2.2.2.2.2.2.2.2.2.2.2.2.2.2.2.2.2.2.2.2.2.2.1, τ.2.2.2.2.2.2.2.2.2.2.2.2.2.2.2.2.2.2.2.2.2.2.2.2.2.1, τ.2.2.2.2.2.2.2.2.2.2.2.2.2.2.2.2.2.2.2.2.2.2.2.2.2.2)
def s_pivot (τ : MS) (x : Nat → Int32) : MS := (τ.1, τ.2.1, τ.2.2.1, τ.2.2.2.1, τ.2.2.2.2.1, τ.2.2.2.2.2.1, x, τ.2.2.2.2.2.2.2.1, τ.2.2.2.2.2.2.2.2.1, τ.2.2.2.2.2.2.2.2.2.1, τ.2.2.2.2.2.2.2.2.2.2.1, τ.2.2.2.2.2.2.2.2.2.2.2.1, τ.2.2.2.2.2.2.2.2.2.2.2.2.1, τ.2.2.2.2.2.2.2.2.2.2.2.2.2.1, τ.2.2.2.2.2.2.2.2.2.2.2.2.2.2.1, τ.2.2.2.2.2.2.2.2.2.2.2.2.2.2.2.1, τ.2.2.2.2.2.2.2.2.2.2.2.2.2.2.2.2.1, τ.2.2.2.2.2.2.2.2.2.2.2.2.2.2.2.2.2.1, τ.2.2.2.2.2.2.2.2.2.2.2.2.2.2.2.2.2.2.1, τ.2.2.2.2.2.2.2.2.2.2.2.2.2.2.2.2.2.2.2.1, τ.2.2.2.2.2.2.2.2.2.2.2.2.2.2.2.2.2.2.2.2.1, τ.2.2.2.2.2.2.2.2.2.2.2.2.2.2.2.2.2.2.2.2.2.1, τ.2.2.2.2.2.2.2.2.2.2.2.2.2.2.2.2.2.2.2.2.2.2.1, τ.2.2.2.2.2.2.2.2.2.2.2.2.2.2.2.2.2.2.2.2.2.2.2.1, τ.2.2.2.2.2.2.2.2.2.2.2.2.2.2.2.2.2.2.2.2.2.2.2.2.1, τ.2.2.2.2.2.2.2.2.2.2.2.2.2.2.2.2.2.2.2.2.2.2.2.2.2.1, τ.2.2.2.2.2.2.2.2.2.2.2.2.2.2.2.2.2.2.2.2.2.2.2.2.2.2)
def s_fresh (τ : MS) (x : Nat → Int64) : MS := (τ.1, τ.2.1, τ.2.2.1, τ.2.2.2.1, τ.2.2.2.2.1, τ.2.2.2.2.2.1, τ.2.2.2.2.2.2.1, x, τ.2.2.2.2.2.2.2.2.1, τ.2.2.2.2.2.2.2.2.2.1, τ.2.2.2.2.2.2.2.2.2.2.1, τ.2.2.2.2.2.2.2.2.2.2.2.1, τ.2.2.2.2.2.2.2.2.2.2.2.2.1, τ.2.2.2.2.2.2.2.2.2.2.2.2.2.1, τ.2.2.2.2.2.2.2.2.2.2.2.2.2.2.1, τ.2.2.2.2.2.2.2.2.2.2.2.2.2.2.2.1, τ.2.2.2.2.2.2.2.2.2.2.2.2.2.2.2.2.1, τ.2.2.2.2.2.2.2.2.2.2.2.2.2.2.2.2.2.1, τ.2.2.2.2.2.2.2.2.2.2.2.2.2.2.2.2.2.2.1, τ.2.2.2.2.2.2.2.2.2.2.2.2.2.2.2.2.2.2.2.1, τ.2.2.2.2.2.2.2.2.2.2.2.2.2.2.2.2.2.2.2.2.1, τ.2.2.2.2.2.2.2.2.2.2.2.2.2.2.2.2.2.2.2.2.2.1, τ.2.2.2.2.2.2.2.2.2.2.2.2.2.2.2.2.2.2.2.2.2.2.1, τ.2.2.2.2.2.2.2.2.2.2.2.2.2.2.2.2.2.2.2.2.2.2.2.1, τ.2.2.2.2.2.2.2.2.2.2.2.2.2.2.2.2.2.2.2.2.2.2.2.2.1, τ.2.2.2.2.2.2.2.2.2.2.2.2.2.2.2.2.2.2.2.2.2.2.2.2.2.1, τ.2.2.2.2.2.2.2.2.2.2.2.2.2.2.2.2.2.2.2.2.2.2.2.2.2.2)
def s_multiple (τ : MS) (x : Nat → Int64) : MS := (τ.1, τ.2.1, τ.2.2.1, τ.2.2.2.1, τ.2.2.2.2.1, τ.2.2.2.2.2.1, τ.2.2.2.2.2.2.1, τ.2.2.2.2.2.2.2.1, x, τ.2.2.2.2.2.2.2.2.2.1, τ.2.2.2.2.2.2.2.2.2.2.1, τ.2.2.2.2.2.2.2.2.2.2.2.1, τ.2.2.2.2.2.2.2.2.2.2.2.2.1, τ.2.2.2.2.2.2.2.2.2.2.2.2.2.1, τ.2.2.2.2.2.2.2.2.2.2.2.2.2.2.1, τ.2.2.2.2.2.2.2.2.2.2.2.2.2.2.2.1, τ.2.2.2.2.2.2.2.2.2.2.2.2.2.2.2.2.1, τ.2.2.2.2.2.2.2.2.2.2.2.2.2.2.2.2.2.1, τ.2.2.2.2.2.2.2.2.2.2.2.2.2.2.2.2.2.2.1, τ.2.2.2.2.2.2.2.2.2.2.2.2.2.2.2.2.2.2.2.1, τ.2.2.2.2.2.2.2.2.2.2.2.2.2.2.2.2.2.2.2.2.1, τ.2.2.2.2.2.2.2.2.2.2.2.2.2.2.2.2.2.2.2.2.2.1, τ.2.2.2.2.2.2.2.2.2.2.2.2.2.2.2.2.2.2.2.2.2.2.1, τ.2.2.2.2.2.2.2.2.2.2.2.2.2.2.2.2.2.2.2.2.2.2.2.1, τ.2.2.2.2.2.2.2.2.2.2.2.2.2.2.2.2.2.2.2.2.2.2.2.2.1, τ.2.2.2.2.2.2.2.2.2.2.2.2.2.2.2.2.2.2.2.2.2.2.2.2.2.1, τ.2.2.2.2.2.2.2.2.2.2.2.2.2.2.2.2.2.2.2.2.2.2.2.2.2.2)
def s_last (τ : MS) (x : Nat → Int64) : MS := (τ.1, τ.2.1, τ.2.2.1, τ.2.2.2.1, τ.2.2.2.2.1, τ.2.2.2.2.2.1, τ.2.2.2.2.2.2.1, τ.2.2.2.2.2.2.2.1, τ.2.2.2.2.2.2.2.2.1, x, τ.2.2.2.2.2.2.2.2.2.2.1, τ.2.2.2.2.2.2.2.2.2.2.2.1, τ.2.2.2.2.2.2.2.2.2.2.2.2.1, τ.2.2.2.2.2.2.2.2.2.2.2.2.2.1, τ.2.2.2.2.2.2.2.2.2.2.2.2.2.2.1, τ.2.2.2.2.2.2.2.2.2.2.2.2.2.2.2.1, τ.2.2.2.2.2.2.2.2.2.2.2.2.2.2.2.2.1, τ.2.2.2.2.2.2.2.2.2.2.2.2.2.2.2.2.2.1, τ.2.2.2.2.2.2.2.2.2.2.2.2.2.2.2.2.2.2.1, τ.2.2.2.2.2.2.2.2.2.2.2.2.2.2.2.2.2.2.2.1, τ.2.2.2.2.2.2.2.2.2.2.2.2.2.2.2.2.2.2.2.2.1, τ.2.2.2.2.2.2.2.2.2.2.2.2.2.2.2.2.2.2.2.2.2.1, τ.2.2.2.2.2.2.2.2.2.2.2.2.2.2.2.2.2.2.2.2.2.2.1, τ.2.2.2.2.2.2.2.2.2.2.2.2.2.2.2.2.2.2.2.2.2.2.2.1, τ.2.2.2.2.2.2.2.2.2.2.2.2.2.2.2.2.2.2.2.2.2.2.2.2.1, τ.2.2.2.2.2.2.2.2.2.2.2.2.2.2.2.2.2.2.2.2.2.2.2.2.2.1, τ.2.2.2.2.2.2.2.2.2.2.2.2.2.2.2.2.2.2.2.2.2.2.2.2.2.2)
def s_made (τ : MS) (x : Nat → Int64) : MS := (τ.1, τ.2.1, τ.2.2.1, τ.2.2.2.1, τ.2.2.2.2.1, τ.2.2.2.2.2.1, τ.2.2.2.2.2.2.1, τ.2.2.2.2.2.2.2.1, τ.2.2.2.2.2.2.2.2.1, τ.2.2.2.2.2.2.2.2.2.1, x, τ.2.2.2.2.2.2.2.2.2.2.2.1, τ.2.2.2.2.2.2.2.2.2.2.2.2.1, τ.2.2.2.2.2.2.2.2.2.2.2.2.2.1, τ.2.2.2.2.2.2.2.2.2.2.2.2.2.2.1, τ.2.2.2.2.2.2.2.2.2.2.2.2.2.2.2.1, τ.2.2.2.2.2.2.2.2.2.2.2.2.2.2.2.2.1, τ.2.2.2.2.2.2.2.2.2.2.2.2.2.2.2.2.2.1, τ.2.2.2.2.2.2.2.2.2.2.2.2.2.2.2.2.2.2.1, τ.2.2.2.2.2.2.2.2.2.2.2.2.2.2.2.2.2.2.2.1, τ.2.2.2.2.2.2.2.2.2.2.2.2.2.2.2.2.2.2.2.2.1, τ.2.2.2.2.2.2.2.2.2.2.2.2.2.2.2.2.2.2.2.2.2.1, τ.2.2.2.2.2.2.2.2.2.2.2.2.2.2.2.2.2.2.2.2.2.2.1, τ.2.2.2.2.2.2.2.2.2.2.2.2.2.2.2.2.2.2.2.2.2.2.2.1, τ.2.2.2.2.2.2.2.2.2.2.2.2.2.2.2.2.2.2.2.2.2.2.2.2.1, τ.2.2.2.2.2.2.2.2.2.2.2.2.2.2.2.2.2.2.2.2.2.2.2.2.2.1, τ.2.2.2.2.2.2.2.2.2.2.2.2.2.2.2.2.2.2.2.2.2.2.2.2.2.2)
def s_settled (τ : MS) (x : Nat → Int64) : MS := (τ.1, τ.2.1, τ.2.2.1, τ.2.2.2.1, τ.2.2.2.2.1, τ.2.2.2.2.2.1, τ.2.2.2.2.2.2.1, τ.2.2.2.2.2.2.2.1, τ.2.2.2.2.2.2.2.2.1, τ.2.2.2.2.2.2.2.2.2.1, τ.2.2.2.2.2.2.2.2.2.2.1, x, τ.2.2.2.2.2.2.2.2.2.2.2.2.1, τ.2.2.2.2.2.2.2.2.2.2.2.2.2.1, τ.2.2.2.2.2.2.2.2.2.2.2.2.2.2.1, τ.2.2.2.2.2.2.2.2.2.2.2.2.2.2.2.1, τ.2.2.2.2.2.2.2.2.2.2.2.2.2.2.2.2.1, τ.2.2.2.2.2.2.2.2.2.2.2.2.2.2.2.2.2.1, τ.2.2.2.2.2.2.2.2.2.2.2.2.2.2.2.2.2.2.1, τ.2.2.2.2.2.2.2.2.2.2.2.2.2.2.2.2.2.2.2.1, τ.2.2.2.2.2.2.2.2.2.2.2.2.2.2.2.2.2.2.2.2.1, τ.2.2.2.2.2.2.2.2.2.2.2.2.2.2.2.2.2.2.2.2.2.1, τ.2.2.2.2.2.2.2.2.2.2.2.2.2.2.2.2.2.2.2.2.2.2.1, τ.2.2.2.2.2.2.2.2.2.2.2.2.2.2.2.2.2.2.2.2.2.2.2.1, τ.2.2.2.2.2.2.2.2.2.2.2.2.2.2.2.2.2.2.2.2.2.2.2.2.1, τ.2.2.2.2.2.2.2.2.2.2.2.2.2.2.2.2.2.2.2.2.2.2.2.2.2.1, τ.2.2.2.2.2.2.2.2.2.2.2.2.2.2.2.2.2.2.2.2.2.2.2.2.2.2)
def s_point (τ : MS) (x : Nat → Int64) : MS := (τ.1, τ.2.1, τ.2.2.1, τ.2.2.2.1, τ.2.2.2.2.1, τ.2.2.2.2.2.1, τ.2.2.2.2.2.2.1, τ.2.2.2.2.2.2.2.1, τ.2.2.2.2.2.2.2.2.1, τ.2.2.2.2.2.2.2.2.2.1, τ.2.2.2.2.2.2.2.2.2.2.1, τ.2.2.2.2.2.2.2.2.2.2.2.1, x, τ.2.2.2.2.2.2.2.2.2.2.2.2.2.1, τ.2.2.2.2.2.2.2.2.2.2.2.2.2.2.1, τ.2.2.2.2.2.2.2.2.2.2.2.2.2.2.2.1, τ.2.2.2.2.2.2.2.2.2.2.2.2.2.2.2.2.1, τ.2.2.2.2.2.2.2.2.2.2.2.2.2.2.2.2.2.1, τ.2.2.2.2.2.2.2.2.2.2.2.2.2.2.2.2.2.2.1, τ.2.2.2.2.2.2.2.2.2.2.2.2.2.2.2.2.2.2.2.1, τ.2.2.2.2.2.2.2.2.2.2.2.2.2.2.2.2.2.2.2.2.1, τ.2.2.2.2.2.2.2.2.2.2.2.2.2.2.2.2.2.2.2.2.2.1, τ.2.2.2.2.2.2.2.2.2.2.2.2.2.2.2.2.2.2.2.2.2.2.1, τ.2.2.2.2.2.2.2.2.2.2.2.2.2.2.2.2.2.2.2.2.2.2.2.1, τ.2.2.2.2.2.2.2.2.2.2.2.2.2.2.2.2.2.2.2.2.2.2.2.2.1, τ.2.2.2.2.2.2.2.2.2.2.2.2.2.2.2.2.2.2.2.2.2.2.2.2.2.1, τ.2.2.2.2.2.2.2.2.2.2.2.2.2.2.2.2.2.2.2.2.2.2.2.2.2.2)
def s_limit (τ : MS) (x : Int64) : MS := (τ.1, τ.2.1, τ.2.2.1, τ.2.2.2.1, τ.2.2.2.2.1, τ.2.2.2.2.2.1, τ.2.2.2.2.2.2.1, τ.2.2.2.2.2.2.2.1, τ.2.2.2.2.2.2.2.2.1, τ.2.2.2.2.2.2.2.2.2.1, τ.2.2.2.2.2.2.2.2.2.2.1, τ.2.2.2.2.2.2.2.2.2.2.2.1, τ.2.2.2.2.2.2.2.2.2.2.2.2.1, x, τ.2.2.2.2.2.2.2.2.2.2.2.2.2.2.1, τ.2.2.2.2.2.2.2.2.2.2.2.2.2.2.2.1, τ.2.2.2.2.2.2.2.2.2.2.2.2.2.2.2.2.1, τ.2.2.2.2.2.2.2.2.2.2.2.2.2.2.2.2.2.1, τ.2.2.2.2.2.2.2.2.2.2.2.2.2.2.2.2.2.2.1, τ.2.2.2.2.2.2.2.2.2.2.2.2.2.2.2.2.2.2.2.1, τ.2.2.2.2.2.2.2.2.2.2.2.2.2.2.2.2.2.2.2.2.1, τ.2.2.2.2.2.2.2.2.2.2.2.2.2.2.2.2.2.2.2.2.2.1, τ.2.2.2.2.2.2.2.2.2.2.2.2.2.2.2.2.2.2.2.2.2.2.1, τ.2.2.2.2.2.2.2.2.2.2.2.2.2.2.2.2.2.2.2.2.2.2.2.1, τ.2.2.2.2.2.2.2.2.2.2.2.2.2.2.2.2.2.2.2.2.2.2.2.2.1, τ.2.2.2.2.2.2.2.2.2.2.2.2.2.2.2.2.2.2.2.2.2.2.2.2.2.1, τ.2.2.2.2.2.2.2.2.2.2.2.2.2.2.2.2.2.2.2.2.2.2.2.2.2.2)
def s_mode (τ : MS) (x : Int32) : MS := (τ.1, τ.2.1, τ.2.2.1, τ.2.2.2.1, τ.2.2.2.2.1, τ.2.2.2.2.2.1, τ.2.2.2.2.2.2.1, τ.2.2.2.2.2.2.2.1, τ.2.2.2.2.2.2.2.2.1, τ.2.2.2.2.2.2.2.2.2.1, τ.2.2.2.2.2.2.2.2.2.2.1, τ.2.2.2.2.2.2.2.2.2.2.2.1, τ.2.2.2.2.2.2.2.2.2.2.2.2.1, τ.2.2.2.2.2.2.2.2.2.2.2.2.2.1, x, τ.2.2.2.2.2.2.2.2.2.2.2.2.2.2.2.1, τ.2.2.2.2.2.2.2.2.2.2.2.2.2.2.2.2.1, τ.2.2.2.2.2.2.2.2.2.2.2.2.2.2.2.2.2.1, τ.2.2.2.2.2.2.2.2.2.2.2.2.2.2.2.2.2.2.1, τ.2.2.2.2.2.2.2.2.2.2.2.2.2.2.2.2.2.2.2.1, τ.2.2.2.2.2.2.2.2.2.2.2.2.2.2.2.2.2.2.2.2.1, τ.2.2.2.2.2.2.2.2.2.2.2.2.2.2.2.2.2.2.2.2.2.1, τ.2.2.2.2.2.2.2.2.2.2.2.2.2.2.2.2.2.2.2.2.2.2.1, τ.2.2.2.2.2.2.2.2.2.2.2.2.2.2.2.2.2.2.2.2.2.2.2.1, τ.2.2.2.2.2.2.2.2.2.2.2.2.2.2.2.2.2.2.2.2.2.2.2.2.1, τ.2.2.2.2.2.2.2.2.2.2.2.2.2.2.2.2.2.2.2.2.2.2.2.2.2.1, τ.2.2.2.2.2.2.2.2.2.2.2.2.2.2.2.2.2.2.2.2.2.2.2.2.2.2)
def s_counted (τ : MS) (x : Int32) : MS := (τ.1, τ.2.1, τ.2.2.1, τ.2.2.2.1, τ.2.2.2.2.1, τ.2.2.2.2.2.1, τ.2.2.2.2.2.2.1, τ.2.2.2.2.2.2.2.1, τ.2.2.2.2.2.2.2.2.1, τ.2.2.2.2.2.2.2.2.2.1, τ.2.2.2.2.2.2.2.2.2.2.1, τ.2.2.2.2.2.2.2.2.2.2.2.1, τ.2.2.2.2.2.2.2.2.2.2.2.2.1, τ.2.2.2.2.2.2.2.2.2.2.2.2.2.1, τ.2.2.2.2.2.2.2.2.2.2.2.2.2.2.1, x, τ.2.2.2.2.2.2.2.2.2.2.2.2.2.2.2.2.1, τ.2.2.2.2.2.2.2.2.2.2.2.2.2.2.2.2.2.1, τ.2.2.2.2.2.2.2.2.2.2.2.2.2.2.2.2.2.2.1, τ.2.2.2.2.2.2.2.2.2.2.2.2.2.2.2.2.2.2.2.1, τ.2.2.2.2.2.2.2.2.2.2.2.2.2.2.2.2.2.2.2.2.1, τ.2.2.2.2.2.2.2.2.2.2.2.2.2.2.2.2.2.2.2.2.2.1, τ.2.2.2.2.2.2.2.2.2.2.2.2.2.2.2.2.2.2.2.2.2.2.1, τ.2.2.2.2.2.2.2.2.2.2.2.2.2.2.2.2.2.2.2.2.2.2.2.1, τ.2.2.2.2.2.2.2.2.2.2.2.2.2.2.2.2.2.2.2.2.2.2.2.2.1, τ.2.2.2.2.2.2.2.2.2.2.2.2.2.2.2.2.2.2.2.2.2.2.2.2.2.1, τ.2.2.2.2.2.2.2.2.2.2.2.2.2.2.2.2.2.2.2.2.2.2.2.2.2.2)
def s_listed (τ : MS) (x : Int32) : MS := (τ.1, τ.2.1, τ.2.2.1, τ.2.2.2.1, τ.2.2.2.2.1, τ.2.2.2.2.2.1, τ.2.2.2.2.2.2.1, τ.2.2.2.2.2.2.2.1, τ.2.2.2.2.2.2.2.2.1, τ.2.2.2.2.2.2.2.2.2.1, τ.2.2.2.2.2.2.2.2.2.2.1, τ.2.2.2.2.2.2.2.2.2.2.2.1, τ.2.2.2.2.2.2.2.2.2.2.2.2.1, τ.2.2.2.2.2.2.2.2.2.2.2.2.2.1, τ.2.2.2.2.2.2.2.2.2.2.2.2.2.2.1, τ.2.2.2.2.2.2.2.2.2.2.2.2.2.2.2.1, x, τ.2.2.2.2.2.2.2.2.2.2.2.2.2.2.2.2.2.1, τ.2.2.2.2.2.2.2.2.2.2.2.2.2.2.2.2.2.2.1, τ.2.2.2.2.2.2.2.2.2.2.2.2.2.2.2.2.2.2.2.1, τ.2.2.2.2.2.2.2.2.2.2.2.2.2.2.2.2.2.2.2.2.1, τ.2.2.2.2.2.2.2.2.2.2.2.2.2.2.2.2.2.2.2.2.2.1, τ.2.2.2.2.2.2.2.2.2.2.2.2.2.2.2.2.2.2.2.2.2.2.1, τ.2.2.2.2.2.2.2.2.2.2.2.2.2.2.2.2.2.2.2.2.2.2.2.1, τ.2.2.2.2.2.2.2.2.2.2.2.2.2.2.2.2.2.2.2.2.2.2.2.2.1, τ.2.2.2.2.2.2.2.2.2.2.2.2.2.2.2.2.2.2.2.2.2.2.2.2.2.1, τ.2.2.2.2.2.2.2.2.2.2.2.2.2.2.2.2.2.2.2.2.2.2.2.2.2.2)
def s_held (τ : MS) (x : Int32) : MS := (τ.1, τ.2.1, τ.2.2.1, τ.2.2.2.1, τ.2.2.2.2.1, τ.2.2.2.2.2.1, τ.2.2.2.2.2.2.1, τ.2.2.2.2.2.2.2.1, τ.2.2.2.2.2.2.2.2.1, τ.2.2.2.2.2.2.2.2.2.1, τ.2.2.2.2.2.2.2.2.2.2.1, τ.2.2.2.2.2.2.2.2.2.2.2.1, τ.2.2.2.2.2.2.2.2.2.2.2.2.1, τ.2.2.2.2.2.2.2.2.2.2.2.2.2.1, τ.2.2.2.2.2.2.2.2.2.2.2.2.2.2.1, τ.2.2.2.2.2.2.2.2.2.2.2.2.2.2.2.1, τ.2.2.2.2.2.2.2.2.2.2.2.2.2.2.2.2.1, x, τ.2.2.2.2.2.2.2.2.2.2.2.2.2.2.2.2.2.2.1, τ.2.2.2.2.2.2.2.2.2.2.2.2.2.2.2.2.2.2.2.1, τ.2.2.2.2.2.2.2.2.2.2.2.2.2.2.2.2.2.2.2.2.1, τ.2.2.2.2.2.2.2.2.2.2.2.2.2.2.2.2.2.2.2.2.2.1, τ.2.2.2.2.2.2.2.2.2.2.2.2.2.2.2.2.2.2.2.2.2.2.1, τ.2.2.2.2.2.2.2.2.2.2.2.2.2.2.2.2.2.2.2.2.2.2.2.1, τ.2.2.2.2.2.2.2.2.2.2.2.2.2.2.2.2.2.2.2.2.2.2.2.2.1, τ.2.2.2.2.2.2.2.2.2.2.2.2.2.2.2.2.2.2.2.2.2.2.2.2.2.1, τ.2.2.2.2.2.2.2.2.2.2.2.2.2.2.2.2.2.2.2.2.2.2.2.2.2.2)
def s_first (τ : MS) (x : Nat → Int64) : MS := (τ.1, τ.2.1, τ.2.2.1, τ.2.2.2.1, τ.2.2.2.2.1, τ.2.2.2.2.2.1, τ.2.2.2.2.2.2.1, τ.2.2.2.2.2.2.2.1, τ.2.2.2.2.2.2.2.2.1, τ.2.2.2.2.2.2.2.2.2.1, τ.2.2.2.2.2.2.2.2.2.2.1, τ.2.2.2.2.2.2.2.2.2.2.2.1, τ.2.2.2.2.2.2.2.2.2.2.2.2.1, τ.2.2.2.2.2.2.2.2.2.2.2.2.2.1, τ.2.2.2.2.2.2.2.2.2.2.2.2.2.2.1, τ.2.2.2.2.2.2.2.2.2.2.2.2.2.2.2.1, τ.2.2.2.2.2.2.2.2.2.2.2.2.2.2.2.2.1, τ.2.2.2.2.2.2.2.2.2.2.2.2.2.2.2.2.2.1, x, τ.2.2.2.2.2.2.2.2.2.2.2.2.2.2.2.2.2.2.2.1, τ.2.2.2.2.2.2.2.2.2.2.2.2.2.2.2.2.2.2.2.2.1, τ.2.2.2.2.2.2.2.2.2.2.2.2.2.2.2.2.2.2.2.2.2.1, τ.2.2.2.2.2.2.2.2.2.2.2.2.2.2.2.2.2.2.2.2.2.2.1, τ.2.2.2.2.2.2.2.2.2.2.2.2.2.2.2.2.2.2.2.2.2.2.2.1, τ.2.2.2.2.2.2.2.2.2.2.2.2.2.2.2.2.2.2.2.2.2.2.2.2.1, τ.2.2.2.2.2.2.2.2.2.2.2.2.2.2.2.2.2.2.2.2.2.2.2.2.2.1, τ.2.2.2.2.2.2.2.2.2.2.2.2.2.2.2.2.2.2.2.2.2.2.2.2.2.2)
def s_squares (τ : MS) (x : Nat → Int64) : MS := (τ.1, τ.2.1, τ.2.2.1, τ.2.2.2.1, τ.2.2.2.2.1, τ.2.2.2.2.2.1, τ.2.2.2.2.2.2.1, τ.2.2.2.2.2.2.2.1, τ.2.2.2.2.2.2.2.2.1, τ.2.2.2.2.2.2.2.2.2.1, τ.2.2.2.2.2.2.2.2.2.2.1, τ.2.2.2.2.2.2.2.2.2.2.2.1, τ.2.2.2.2.2.2.2.2.2.2.2.2.1, τ.2.2.2.2.2.2.2.2.2.2.2.2.2.1, τ.2.2.2.2.2.2.2.2.2.2.2.2.2.2.1, τ.2.2.2.2.2.2.2.2.2.2.2.2.2.2.2.1, τ.2.2.2.2.2.2.2.2.2.2.2.2.2.2.2.2.1, τ.2.2.2.2.2.2.2.2.2.2.2.2.2.2.2.2.2.1, τ.2.2.2.2.2.2.2.2.2.2.2.2.2.2.2.2.2.2.1, x, τ.2.2.2.2.2.2.2.2.2.2.2.2.2.2.2.2.2.2.2.2.1, τ.2.2.2.2.2.2.2.2.2.2.2.2.2.2.2.2.2.2.2.2.2.1, τ.2.2.2.2.2.2.2.2.2.2.2.2.2.2.2.2.2.2.2.2.2.2.1, τ.2.2.2.2.2.2.2.2.2.2.2.2.2.2.2.2.2.2.2.2.2.2.2.1, τ.2.2.2.2.2.2.2.2.2.2.2.2.2.2.2.2.2.2.2.2.2.2.2.2.1, τ.2.2.2.2.2.2.2.2.2.2.2.2.2.2.2.2.2.2.2.2.2.2.2.2.2.1, τ.2.2.2.2.2.2.2.2.2.2.2.2.2.2.2.2.2.2.2.2.2.2.2.2.2.2)
def s_wanted (τ : MS) (x : Int32) : MS := (τ.1, τ.2.1, τ.2.2.1, τ.2.2.2.1, τ.2.2.2.2.1, τ.2.2.2.2.2.1, τ.2.2.2.2.2.2.1, τ.2.2.2.2.2.2.2.1, τ.2.2.2.2.2.2.2.2.1, τ.2.2.2.2.2.2.2.2.2.1, τ.2.2.2.2.2.2.2.2.2.2.1, τ.2.2.2.2.2.2.2.2.2.2.2.1, τ.2.2.2.2.2.2.2.2.2.2.2.2.1, τ.2.2.2.2.2.2.2.2.2.2.2.2.2.1, τ.2.2.2.2.2.2.2.2.2.2.2.2.2.2.1, τ.2.2.2.2.2.2.2.2.2.2.2.2.2.2.2.1, τ.2.2.2.2.2.2.2.2.2.2.2.2.2.2.2.2.1, τ.2.2.2.2.2.2.2.2.2.2.2.2.2.2.2.2.2.1, τ.2.2.2.2.2.2.2.2.2.2.2.2.2.2.2.2.2.2.1, τ.2.2.2.2.2.2.2.2.2.2.2.2.2.2.2.2.2.2.2.1, x, τ.2.2.2.2.2.2.2.2.2.2.2.2.2.2.2.2.2.2.2.2.2.1, τ.2.2.2.2.2.2.2.2.2.2.2.2.2.2.2.2.2.2.2.2.2.2.1, τ.2.2.2.2.2.2.2.2.2.2.2.2.2.2.2.2.2.2.2.2.2.2.2.1, τ.2.2.2.2.2.2.2.2.2.2.2.2.2.2.2.2.2.2.2.2.2.2.2.2.1, τ.2.2.2.2.2.2.2.2.2.2.2.2.2.2.2.2.2.2.2.2.2.2.2.2.2.1, τ.2.2.2.2.2.2.2.2.2.2.2.2.2.2.2.2.2.2.2.2.2.2.2.2.2.2)
def s_spanned (τ : MS) (x : Int32) : MS := (τ.1, τ.2.1, τ.2.2.1, τ.2.2.2.1, τ.2.2.2.2.1, τ.2.2.2.2.2.1, τ.2.2.2.2.2.2.1, τ.2.2.2.2.2.2.2.1, τ.2.2.2.2.2.2.2.2.1, τ.2.2.2.2.2.2.2.2.2.1, τ.2.2.2.2.2.2.2.2.2.2.1, τ.2.2.2.2.2.2.2.2.2.2.2.1, τ.2.2.2.2.2.2.2.2.2.2.2.2.1, τ.2.2.2.2.2.2.2.2.2.2.2.2.2.1, τ.2.2.2.2.2.2.2.2.2.2.2.2.2.2.1, τ.2.2.2.2.2.2.2.2.2.2.2.2.2.2.2.1, τ.2.2.2.2.2.2.2.2.2.2.2.2.2.2.2.2.1, τ.2.2.2.2.2.2.2.2.2.2.2.2.2.2.2.2.2.1, τ.2.2.2.2.2.2.2.2.2.2.2.2.2.2.2.2.2.2.1, τ.2.2.2.2.2.2.2.2.2.2.2.2.2.2.2.2.2.2.2.1, τ.2.2.2.2.2.2.2.2.2.2.2.2.2.2.2.2.2.2.2.2.1, x, τ.2.2.2.2.2.2.2.2.2.2.2.2.2.2.2.2.2.2.2.2.2.2.1, τ.2.2.2.2.2.2.2.2.2.2.2.2.2.2.2.2.2.2.2.2.2.2.2.1, τ.2.2.2.2.2.2.2.2.2.2.2.2.2.2.2.2.2.2.2.2.2.2.2.2.1, τ.2.2.2.2.2.2.2.2.2.2.2.2.2.2.2.2.2.2.2.2.2.2.2.2.2.1, τ.2.2.2.2.2.2.2.2.2.2.2.2.2.2.2.2.2.2.2.2.2.2.2.2.2.2)
def s_span (τ : MS) (x : Nat → Int64) : MS := (τ.1, τ.2.1, τ.2.2.1, τ.2.2.2.1, τ.2.2.2.2.1, τ.2.2.2.2.2.1, τ.2.2.2.2.2.2.1, τ.2.2.2.2.2.2.2.1, τ.2.2.2.2.2.2.2.2.1, τ.2.2.2.2.2.2.2.2.2.1, τ.2.2.2.2.2.2.2.2.2.2.1, τ.2.2.2.2.2.2.2.2.2.2.2.1, τ.2.2.2.2.2.2.2.2.2.2.2.2.1, τ.2.2.2.2.2.2.2.2.2.2.2.2.2.1, τ.2.2.2.2.2.2.2.2.2.2.2.2.2.2.1, τ.2.2.2.2.2.2.2.2.2.2.2.2.2.2.2.1, τ.2.2.2.2.2.2.2.2.2.2.2.2.2.2.2.2.1, τ.2.2.2.2.2.2.2.2.2.2.2.2.2.2.2.2.2.1, τ.2.2.2.2.2.2.2.2.2.2.2.2.2.2.2.2.2.2.1, τ.2.2.2.2.2.2.2.2.2.2.2.2.2.2.2.2.2.2.2.1, τ.2.2.2.2.2.2.2.2.2.2.2.2.2.2.2.2.2.2.2.2.1, τ.2.2.2.2.2.2.2.2.2.2.2.2.2.2.2.2.2.2.2.2.2.1, x, τ.2.2.2.2.2.2.2.2.2.2.2.2.2.2.2.2.2.2.2.2.2.2.2.1, τ.2.2.2.2.2.2.2.2.2.2.2.2.2.2.2.2.2.2.2.2.2.2.2.2.1, τ.2.2.2.2.2.2.2.2.2.2.2.2.2.2.2.2.2.2.2.2.2.2.2.2.2.1, τ.2.2.2.2.2.2.2.2.2.2.2.2.2.2.2.2.2.2.2.2.2.2.2.2.2.2)
def s_minima (τ : MS) (x : Nat → Int32) : MS := (τ.1, τ.2.1, τ.2.2.1, τ.2.2.2.1, τ.2.2.2.2.1, τ.2.2.2.2.2.1, τ.2.2.2.2.2.2.1, τ.2.2.2.2.2.2.2.1, τ.2.2.2.2.2.2.2.2.1, τ.2.2.2.2.2.2.2.2.2.1, τ.2.2.2.2.2.2.2.2.2.2.1, τ.2.2.2.2.2.2.2.2.2.2.2.1, τ.2.2.2.2.2.2.2.2.2.2.2.2.1, τ.2.2.2.2.2.2.2.2.2.2.2.2.2.1, τ.2.2.2.2.2.2.2.2.2.2.2.2.2.2.1, τ.2.2.2.2.2.2.2.2.2.2.2.2.2.2.2.1, τ.2.2.2.2.2.2.2.2.2.2.2.2.2.2.2.2.1, τ.2.2.2.2.2.2.2.2.2.2.2.2.2.2.2.2.2.1, τ.2.2.2.2.2.2.2.2.2.2.2.2.2.2.2.2.2.2.1, τ.2.2.2.2.2.2.2.2.2.2.2.2.2.2.2.2.2.2.2.1, τ.2.2.2.2.2.2.2.2.2.2.2.2.2.2.2.2.2.2.2.2.1, τ.2.2.2.2.2.2.2.2.2.2.2.2.2.2.2.2.2.2.2.2.2.1, τ.2.2.2.2.2.2.2.2.2.2.2.2.2.2.2.2.2.2.2.2.2.2.1, x, τ.2.2.2.2.2.2.2.2.2.2.2.2.2.2.2.2.2.2.2.2.2.2.2.2.1, τ.2.2.2.2.2.2.2.2.2.2.2.2.2.2.2.2.2.2.2.2.2.2.2.2.2.1, τ.2.2.2.2.2.2.2.2.2.2.2.2.2.2.2.2.2.2.2.2.2.2.2.2.2.2)
def s_measured (τ : MS) (x : Int32) : MS := (τ.1, τ.2.1, τ.2.2.1, τ.2.2.2.1, τ.2.2.2.2.1, τ.2.2.2.2.2.1, τ.2.2.2.2.2.2.1, τ.2.2.2.2.2.2.2.1, τ.2.2.2.2.2.2.2.2.1, τ.2.2.2.2.2.2.2.2.2.1, τ.2.2.2.2.2.2.2.2.2.2.1, τ.2.2.2.2.2.2.2.2.2.2.2.1, τ.2.2.2.2.2.2.2.2.2.2.2.2.1, τ.2.2.2.2.2.2.2.2.2.2.2.2.2.1, τ.2.2.2.2.2.2.2.2.2.2.2.2.2.2.1, τ.2.2.2.2.2.2.2.2.2.2.2.2.2.2.2.1, τ.2.2.2.2.2.2.2.2.2.2.2.2.2.2.2.2.1, τ.2.2.2.2.2.2.2.2.2.2.2.2.2.2.2.2.2.1, τ.2.2.2.2.2.2.2.2.2.2.2.2.2.2.2.2.2.2.1, τ.2.2.2.2.2.2.2.2.2.2.2.2.2.2.2.2.2.2.2.1, τ.2.2.2.2.2.2.2.2.2.2.2.2.2.2.2.2.2.2.2.2.1, τ.2.2.2.2.2.2.2.2.2.2.2.2.2.2.2.2.2.2.2.2.2.1, τ.2.2.2.2.2.2.2.2.2.2.2.2.2.2.2.2.2.2.2.2.2.2.1, τ.2.2.2.2.2.2.2.2.2.2.2.2.2.2.2.2.2.2.2.2.2.2.2.1, x, τ.2.2.2.2.2.2.2.2.2.2.2.2.2.2.2.2.2.2.2.2.2.2.2.2.2.1, τ.2.2.2.2.2.2.2.2.2.2.2.2.2.2.2.2.2.2.2.2.2.2.2.2.2.2)
def s_found (τ : MS) (x : Nat → Int64) : MS := (τ.1, τ.2.1, τ.2.2.1, τ.2.2.2.1, τ.2.2.2.2.1, τ.2.2.2.2.2.1, τ.2.2.2.2.2.2.1, τ.2.2.2.2.2.2.2.1, τ.2.2.2.2.2.2.2.2.1, τ.2.2.2.2.2.2.2.2.2.1, τ.2.2.2.2.2.2.2.2.2.2.1, τ.2.2.2.2.2.2.2.2.2.2.2.1, τ.2.2.2.2.2.2.2.2.2.2.2.2.1, τ.2.2.2.2.2.2.2.2.2.2.2.2.2.1, τ.2.2.2.2.2.2.2.2.2.2.2.2.2.2.1, τ.2.2.2.2.2.2.2.2.2.2.2.2.2.2.2.1, τ.2.2.2.2.2.2.2.2.2.2.2.2.2.2.2.2.1, τ.2.2.2.2.2.2.2.2.2.2.2.2.2.2.2.2.2.1, τ.2.2.2.2.2.2.2.2.2.2.2.2.2.2.2.2.2.2.1, τ.2.2.2.2.2.2.2.2.2.2.2.2.2.2.2.2.2.2.2.1, τ.2.2.2.2.2.2.2.2.2.2.2.2.2.2.2.2.2.2.2.2.1, τ.2.2.2.2.2.2.2.2.2.2.2.2.2.2.2.2.2.2.2.2.2.1, τ.2.2.2.2.2.2.2.2.2.2.2.2.2.2.2.2.2.2.2.2.2.2.1, τ.2.2.2.2.2.2.2.2.2.2.2.2.2.2.2.2.2.2.2.2.2.2.2.1, τ.2.2.2.2.2.2.2.2.2.2.2.2.2.2.2.2.2.2.2.2.2.2.2.2.1, x, τ.2.2.2.2.2.2.2.2.2.2.2.2.2.2.2.2.2.2.2.2.2.2.2.2.2.2)
def s_any (τ : MS) (x : Int32) : MS := (τ.1, τ.2.1, τ.2.2.1, τ.2.2.2.1, τ.2.2.2.2.1, τ.2.2.2.2.2.1, τ.2.2.2.2.2.2.1, τ.2.2.2.2.2.2.2.1, τ.2.2.2.2.2.2.2.2.1, τ.2.2.2.2.2.2.2.2.2.1, τ.2.2.2.2.2.2.2.2.2.2.1, τ.2.2.2.2.2.2.2.2.2.2.2.1, τ.2.2.2.2.2.2.2.2.2.2.2.2.1, τ.2.2.2.2.2.2.2.2.2.2.2.2.2.1, τ.2.2.2.2.2.2.2.2.2.2.2.2.2.2.1, τ.2.2.2.2.2.2.2.2.2.2.2.2.2.2.2.1, τ.2.2.2.2.2.2.2.2.2.2.2.2.2.2.2.2.1, τ.2.2.2.2.2.2.2.2.2.2.2.2.2.2.2.2.2.1, τ.2.2.2.2.2.2.2.2.2.2.2.2.2.2.2.2.2.2.1, τ.2.2.2.2.2.2.2.2.2.2.2.2.2.2.2.2.2.2.2.1, τ.2.2.2.2.2.2.2.2.2.2.2.2.2.2.2.2.2.2.2.2.1, τ.2.2.2.2.2.2.2.2.2.2.2.2.2.2.2.2.2.2.2.2.2.1, τ.2.2.2.2.2.2.2.2.2.2.2.2.2.2.2.2.2.2.2.2.2.2.1, τ.2.2.2.2.2.2.2.2.2.2.2.2.2.2.2.2.2.2.2.2.2.2.2.1, τ.2.2.2.2.2.2.2.2.2.2.2.2.2.2.2.2.2.2.2.2.2.2.2.2.1, τ.2.2.2.2.2.2.2.2.2.2.2.2.2.2.2.2.2.2.2.2.2.2.2.2.2.1, x)
def mfl (κ : ctx) (τ : MS) : List Value := [.int (m_many τ), .ref (κ.1 1), .int (m_known τ), .int (m_without τ), .int (m_rows τ), .ref (κ.1 2), .ref (κ.1 3), .ref (κ.1 4), .ref (κ.1 5), .ref (κ.1 6), .ref (κ.1 7), .ref (κ.1 8), .ref (κ.1 9), .long (m_limit τ), .int (m_mode τ), .int (m_counted τ), .int (m_listed τ), .int (m_held τ), .ref (κ.1 10), .ref (κ.1 11), .int (m_wanted τ), .int (m_spanned τ), .ref (κ.1 12), .ref (κ.1 13), .int (m_measured τ), .ref (κ.1 14), .int (m_any τ)]
def LM (κ : ctx) (τ : MS) (X : Nat → va_E) : Nat → va_E := fun k => match k with
  | 0 => .inr (0, mfl κ τ)
  | 1 => .inl (κ.2.1, 24, .inl (m_generator τ))
  | 2 => .inl (κ.2.2.1, 16, .inr (.inl (m_row τ)))
  | 3 => .inl (κ.2.1, 5, .inl (m_pivot τ))
  | 4 => .inl (κ.2.2.1, 4, .inr (.inl (m_fresh τ)))
  | 5 => .inl (κ.2.2.1, 4, .inr (.inl (m_multiple τ)))
  | 6 => .inl (κ.2.2.1, 4, .inr (.inl (m_last τ)))
  | 7 => .inl (κ.2.2.1, 20, .inr (.inl (m_made τ)))
  | 8 => .inl (κ.2.2.1, 5, .inr (.inl (m_settled τ)))
  | 9 => .inl (κ.2.2.1, 4, .inr (.inl (m_point τ)))
  | 10 => .inl (κ.2.2.1, 164, .inr (.inl (m_first τ)))
  | 11 => .inl (κ.2.2.1, 41, .inr (.inl (m_squares τ)))
  | 12 => .inl (κ.2.2.1, 16, .inr (.inl (m_span τ)))
  | 13 => .inl (κ.2.1, 5, .inl (m_minima τ))
  | 14 => .inl (κ.2.2.1, 4, .inr (.inl (m_found τ)))
  | k + 15 => X k
theorem LM_generator (κ : ctx) (τ : MS) (X : Nat → va_E) (f : Nat → Int32) : va_up (LM κ τ X) 1 (.inl (κ.2.1, 24, .inl f)) = LM κ (s_generator τ f) X := funext fun k => match k with
  | 0 => rfl
  | 1 => rfl
  | 2 => rfl
  | 3 => rfl
  | 4 => rfl
  | 5 => rfl
  | 6 => rfl
  | 7 => rfl
  | 8 => rfl
  | 9 => rfl
  | 10 => rfl
  | 11 => rfl
  | 12 => rfl
  | 13 => rfl
  | 14 => rfl
  | k + 15 => if_neg (by omega)
theorem LM_row (κ : ctx) (τ : MS) (X : Nat → va_E) (f : Nat → Int64) : va_up (LM κ τ X) 2 (.inl (κ.2.2.1, 16, .inr (.inl f))) = LM κ (s_row τ f) X := funext fun k => match k with
  | 0 => rfl
  | 1 => rfl
  | 2 => rfl
  | 3 => rfl
  | 4 => rfl
  | 5 => rfl
  | 6 => rfl
  | 7 => rfl
  | 8 => rfl
  | 9 => rfl
  | 10 => rfl
  | 11 => rfl
  | 12 => rfl
  | 13 => rfl
  | 14 => rfl
  | k + 15 => if_neg (by omega)
theorem LM_pivot (κ : ctx) (τ : MS) (X : Nat → va_E) (f : Nat → Int32) : va_up (LM κ τ X) 3 (.inl (κ.2.1, 5, .inl f)) = LM κ (s_pivot τ f) X := funext fun k => match k with
  | 0 => rfl
  | 1 => rfl
  | 2 => rfl
  | 3 => rfl
  | 4 => rfl
  | 5 => rfl
  | 6 => rfl
  | 7 => rfl
  | 8 => rfl
  | 9 => rfl
  | 10 => rfl
  | 11 => rfl
  | 12 => rfl
  | 13 => rfl
  | 14 => rfl
  | k + 15 => if_neg (by omega)
theorem LM_fresh (κ : ctx) (τ : MS) (X : Nat → va_E) (f : Nat → Int64) : va_up (LM κ τ X) 4 (.inl (κ.2.2.1, 4, .inr (.inl f))) = LM κ (s_fresh τ f) X := funext fun k => match k with
  | 0 => rfl
  | 1 => rfl
  | 2 => rfl
  | 3 => rfl
  | 4 => rfl
  | 5 => rfl
  | 6 => rfl
  | 7 => rfl
  | 8 => rfl
  | 9 => rfl
  | 10 => rfl
  | 11 => rfl
  | 12 => rfl
  | 13 => rfl
  | 14 => rfl
  | k + 15 => if_neg (by omega)
theorem LM_multiple (κ : ctx) (τ : MS) (X : Nat → va_E) (f : Nat → Int64) : va_up (LM κ τ X) 5 (.inl (κ.2.2.1, 4, .inr (.inl f))) = LM κ (s_multiple τ f) X := funext fun k => match k with
  | 0 => rfl
  | 1 => rfl
  | 2 => rfl
  | 3 => rfl
  | 4 => rfl
  | 5 => rfl
  | 6 => rfl
  | 7 => rfl
  | 8 => rfl
  | 9 => rfl
  | 10 => rfl
  | 11 => rfl
  | 12 => rfl
  | 13 => rfl
  | 14 => rfl
  | k + 15 => if_neg (by omega)
theorem LM_last (κ : ctx) (τ : MS) (X : Nat → va_E) (f : Nat → Int64) : va_up (LM κ τ X) 6 (.inl (κ.2.2.1, 4, .inr (.inl f))) = LM κ (s_last τ f) X := funext fun k => match k with
  | 0 => rfl
  | 1 => rfl
  | 2 => rfl
  | 3 => rfl
  | 4 => rfl
  | 5 => rfl
  | 6 => rfl
  | 7 => rfl
  | 8 => rfl
  | 9 => rfl
  | 10 => rfl
  | 11 => rfl
  | 12 => rfl
  | 13 => rfl
  | 14 => rfl
  | k + 15 => if_neg (by omega)
theorem LM_made (κ : ctx) (τ : MS) (X : Nat → va_E) (f : Nat → Int64) : va_up (LM κ τ X) 7 (.inl (κ.2.2.1, 20, .inr (.inl f))) = LM κ (s_made τ f) X := funext fun k => match k with
  | 0 => rfl
  | 1 => rfl
  | 2 => rfl
  | 3 => rfl
  | 4 => rfl
  | 5 => rfl
  | 6 => rfl
  | 7 => rfl
  | 8 => rfl
  | 9 => rfl
  | 10 => rfl
  | 11 => rfl
  | 12 => rfl
  | 13 => rfl
  | 14 => rfl
  | k + 15 => if_neg (by omega)
theorem LM_settled (κ : ctx) (τ : MS) (X : Nat → va_E) (f : Nat → Int64) : va_up (LM κ τ X) 8 (.inl (κ.2.2.1, 5, .inr (.inl f))) = LM κ (s_settled τ f) X := funext fun k => match k with
  | 0 => rfl
  | 1 => rfl
  | 2 => rfl
  | 3 => rfl
  | 4 => rfl
  | 5 => rfl
  | 6 => rfl
  | 7 => rfl
  | 8 => rfl
  | 9 => rfl
  | 10 => rfl
  | 11 => rfl
  | 12 => rfl
  | 13 => rfl
  | 14 => rfl
  | k + 15 => if_neg (by omega)
theorem LM_point (κ : ctx) (τ : MS) (X : Nat → va_E) (f : Nat → Int64) : va_up (LM κ τ X) 9 (.inl (κ.2.2.1, 4, .inr (.inl f))) = LM κ (s_point τ f) X := funext fun k => match k with
  | 0 => rfl
  | 1 => rfl
  | 2 => rfl
  | 3 => rfl
  | 4 => rfl
  | 5 => rfl
  | 6 => rfl
  | 7 => rfl
  | 8 => rfl
  | 9 => rfl
  | 10 => rfl
  | 11 => rfl
  | 12 => rfl
  | 13 => rfl
  | 14 => rfl
  | k + 15 => if_neg (by omega)
theorem LM_first (κ : ctx) (τ : MS) (X : Nat → va_E) (f : Nat → Int64) : va_up (LM κ τ X) 10 (.inl (κ.2.2.1, 164, .inr (.inl f))) = LM κ (s_first τ f) X := funext fun k => match k with
  | 0 => rfl
  | 1 => rfl
  | 2 => rfl
  | 3 => rfl
  | 4 => rfl
  | 5 => rfl
  | 6 => rfl
  | 7 => rfl
  | 8 => rfl
  | 9 => rfl
  | 10 => rfl
  | 11 => rfl
  | 12 => rfl
  | 13 => rfl
  | 14 => rfl
  | k + 15 => if_neg (by omega)
theorem LM_squares (κ : ctx) (τ : MS) (X : Nat → va_E) (f : Nat → Int64) : va_up (LM κ τ X) 11 (.inl (κ.2.2.1, 41, .inr (.inl f))) = LM κ (s_squares τ f) X := funext fun k => match k with
  | 0 => rfl
  | 1 => rfl
  | 2 => rfl
  | 3 => rfl
  | 4 => rfl
  | 5 => rfl
  | 6 => rfl
  | 7 => rfl
  | 8 => rfl
  | 9 => rfl
  | 10 => rfl
  | 11 => rfl
  | 12 => rfl
  | 13 => rfl
  | 14 => rfl
  | k + 15 => if_neg (by omega)
theorem LM_span (κ : ctx) (τ : MS) (X : Nat → va_E) (f : Nat → Int64) : va_up (LM κ τ X) 12 (.inl (κ.2.2.1, 16, .inr (.inl f))) = LM κ (s_span τ f) X := funext fun k => match k with
  | 0 => rfl
  | 1 => rfl
  | 2 => rfl
  | 3 => rfl
  | 4 => rfl
  | 5 => rfl
  | 6 => rfl
  | 7 => rfl
  | 8 => rfl
  | 9 => rfl
  | 10 => rfl
  | 11 => rfl
  | 12 => rfl
  | 13 => rfl
  | 14 => rfl
  | k + 15 => if_neg (by omega)
theorem LM_minima (κ : ctx) (τ : MS) (X : Nat → va_E) (f : Nat → Int32) : va_up (LM κ τ X) 13 (.inl (κ.2.1, 5, .inl f)) = LM κ (s_minima τ f) X := funext fun k => match k with
  | 0 => rfl
  | 1 => rfl
  | 2 => rfl
  | 3 => rfl
  | 4 => rfl
  | 5 => rfl
  | 6 => rfl
  | 7 => rfl
  | 8 => rfl
  | 9 => rfl
  | 10 => rfl
  | 11 => rfl
  | 12 => rfl
  | 13 => rfl
  | 14 => rfl
  | k + 15 => if_neg (by omega)
theorem LM_found (κ : ctx) (τ : MS) (X : Nat → va_E) (f : Nat → Int64) : va_up (LM κ τ X) 14 (.inl (κ.2.2.1, 4, .inr (.inl f))) = LM κ (s_found τ f) X := funext fun k => match k with
  | 0 => rfl
  | 1 => rfl
  | 2 => rfl
  | 3 => rfl
  | 4 => rfl
  | 5 => rfl
  | 6 => rfl
  | 7 => rfl
  | 8 => rfl
  | 9 => rfl
  | 10 => rfl
  | 11 => rfl
  | 12 => rfl
  | 13 => rfl
  | 14 => rfl
  | k + 15 => if_neg (by omega)
theorem LMf_many (κ : ctx) (τ : MS) (X : Nat → va_E) (x : Int32) : va_up (LM κ τ X) 0 (.inr (0, (mfl κ τ).set 0 (.int x))) = LM κ (s_many τ x) X := funext fun k => match k with
  | 0 => rfl
  | 1 => rfl
  | 2 => rfl
  | 3 => rfl
  | 4 => rfl
  | 5 => rfl
  | 6 => rfl
  | 7 => rfl
  | 8 => rfl
  | 9 => rfl
  | 10 => rfl
  | 11 => rfl
  | 12 => rfl
  | 13 => rfl
  | 14 => rfl
  | k + 15 => if_neg (by omega)
theorem LMf_known (κ : ctx) (τ : MS) (X : Nat → va_E) (x : Int32) : va_up (LM κ τ X) 0 (.inr (0, (mfl κ τ).set 2 (.int x))) = LM κ (s_known τ x) X := funext fun k => match k with
  | 0 => rfl
  | 1 => rfl
  | 2 => rfl
  | 3 => rfl
  | 4 => rfl
  | 5 => rfl
  | 6 => rfl
  | 7 => rfl
  | 8 => rfl
  | 9 => rfl
  | 10 => rfl
  | 11 => rfl
  | 12 => rfl
  | 13 => rfl
  | 14 => rfl
  | k + 15 => if_neg (by omega)
theorem LMf_without (κ : ctx) (τ : MS) (X : Nat → va_E) (x : Int32) : va_up (LM κ τ X) 0 (.inr (0, (mfl κ τ).set 3 (.int x))) = LM κ (s_without τ x) X := funext fun k => match k with
  | 0 => rfl
  | 1 => rfl
  | 2 => rfl
  | 3 => rfl
  | 4 => rfl
  | 5 => rfl
  | 6 => rfl
  | 7 => rfl
  | 8 => rfl
  | 9 => rfl
  | 10 => rfl
  | 11 => rfl
  | 12 => rfl
  | 13 => rfl
  | 14 => rfl
  | k + 15 => if_neg (by omega)
theorem LMf_rows (κ : ctx) (τ : MS) (X : Nat → va_E) (x : Int32) : va_up (LM κ τ X) 0 (.inr (0, (mfl κ τ).set 4 (.int x))) = LM κ (s_rows τ x) X := funext fun k => match k with
  | 0 => rfl
  | 1 => rfl
  | 2 => rfl
  | 3 => rfl
  | 4 => rfl
  | 5 => rfl
  | 6 => rfl
  | 7 => rfl
  | 8 => rfl
  | 9 => rfl
  | 10 => rfl
  | 11 => rfl
  | 12 => rfl
  | 13 => rfl
  | 14 => rfl
  | k + 15 => if_neg (by omega)
theorem LMf_limit (κ : ctx) (τ : MS) (X : Nat → va_E) (x : Int64) : va_up (LM κ τ X) 0 (.inr (0, (mfl κ τ).set 13 (.long x))) = LM κ (s_limit τ x) X := funext fun k => match k with
  | 0 => rfl
  | 1 => rfl
  | 2 => rfl
  | 3 => rfl
  | 4 => rfl
  | 5 => rfl
  | 6 => rfl
  | 7 => rfl
  | 8 => rfl
  | 9 => rfl
  | 10 => rfl
  | 11 => rfl
  | 12 => rfl
  | 13 => rfl
  | 14 => rfl
  | k + 15 => if_neg (by omega)
theorem LMf_mode (κ : ctx) (τ : MS) (X : Nat → va_E) (x : Int32) : va_up (LM κ τ X) 0 (.inr (0, (mfl κ τ).set 14 (.int x))) = LM κ (s_mode τ x) X := funext fun k => match k with
  | 0 => rfl
  | 1 => rfl
  | 2 => rfl
  | 3 => rfl
  | 4 => rfl
  | 5 => rfl
  | 6 => rfl
  | 7 => rfl
  | 8 => rfl
  | 9 => rfl
  | 10 => rfl
  | 11 => rfl
  | 12 => rfl
  | 13 => rfl
  | 14 => rfl
  | k + 15 => if_neg (by omega)
theorem LMf_counted (κ : ctx) (τ : MS) (X : Nat → va_E) (x : Int32) : va_up (LM κ τ X) 0 (.inr (0, (mfl κ τ).set 15 (.int x))) = LM κ (s_counted τ x) X := funext fun k => match k with
  | 0 => rfl
  | 1 => rfl
  | 2 => rfl
  | 3 => rfl
  | 4 => rfl
  | 5 => rfl
  | 6 => rfl
  | 7 => rfl
  | 8 => rfl
  | 9 => rfl
  | 10 => rfl
  | 11 => rfl
  | 12 => rfl
  | 13 => rfl
  | 14 => rfl
  | k + 15 => if_neg (by omega)
theorem LMf_listed (κ : ctx) (τ : MS) (X : Nat → va_E) (x : Int32) : va_up (LM κ τ X) 0 (.inr (0, (mfl κ τ).set 16 (.int x))) = LM κ (s_listed τ x) X := funext fun k => match k with
  | 0 => rfl
  | 1 => rfl
  | 2 => rfl
  | 3 => rfl
  | 4 => rfl
  | 5 => rfl
  | 6 => rfl
  | 7 => rfl
  | 8 => rfl
  | 9 => rfl
  | 10 => rfl
  | 11 => rfl
  | 12 => rfl
  | 13 => rfl
  | 14 => rfl
  | k + 15 => if_neg (by omega)
theorem LMf_held (κ : ctx) (τ : MS) (X : Nat → va_E) (x : Int32) : va_up (LM κ τ X) 0 (.inr (0, (mfl κ τ).set 17 (.int x))) = LM κ (s_held τ x) X := funext fun k => match k with
  | 0 => rfl
  | 1 => rfl
  | 2 => rfl
  | 3 => rfl
  | 4 => rfl
  | 5 => rfl
  | 6 => rfl
  | 7 => rfl
  | 8 => rfl
  | 9 => rfl
  | 10 => rfl
  | 11 => rfl
  | 12 => rfl
  | 13 => rfl
  | 14 => rfl
  | k + 15 => if_neg (by omega)
theorem LMf_wanted (κ : ctx) (τ : MS) (X : Nat → va_E) (x : Int32) : va_up (LM κ τ X) 0 (.inr (0, (mfl κ τ).set 20 (.int x))) = LM κ (s_wanted τ x) X := funext fun k => match k with
  | 0 => rfl
  | 1 => rfl
  | 2 => rfl
  | 3 => rfl
  | 4 => rfl
  | 5 => rfl
  | 6 => rfl
  | 7 => rfl
  | 8 => rfl
  | 9 => rfl
  | 10 => rfl
  | 11 => rfl
  | 12 => rfl
  | 13 => rfl
  | 14 => rfl
  | k + 15 => if_neg (by omega)
theorem LMf_spanned (κ : ctx) (τ : MS) (X : Nat → va_E) (x : Int32) : va_up (LM κ τ X) 0 (.inr (0, (mfl κ τ).set 21 (.int x))) = LM κ (s_spanned τ x) X := funext fun k => match k with
  | 0 => rfl
  | 1 => rfl
  | 2 => rfl
  | 3 => rfl
  | 4 => rfl
  | 5 => rfl
  | 6 => rfl
  | 7 => rfl
  | 8 => rfl
  | 9 => rfl
  | 10 => rfl
  | 11 => rfl
  | 12 => rfl
  | 13 => rfl
  | 14 => rfl
  | k + 15 => if_neg (by omega)
theorem LMf_measured (κ : ctx) (τ : MS) (X : Nat → va_E) (x : Int32) : va_up (LM κ τ X) 0 (.inr (0, (mfl κ τ).set 24 (.int x))) = LM κ (s_measured τ x) X := funext fun k => match k with
  | 0 => rfl
  | 1 => rfl
  | 2 => rfl
  | 3 => rfl
  | 4 => rfl
  | 5 => rfl
  | 6 => rfl
  | 7 => rfl
  | 8 => rfl
  | 9 => rfl
  | 10 => rfl
  | 11 => rfl
  | 12 => rfl
  | 13 => rfl
  | 14 => rfl
  | k + 15 => if_neg (by omega)
theorem LMf_any (κ : ctx) (τ : MS) (X : Nat → va_E) (x : Int32) : va_up (LM κ τ X) 0 (.inr (0, (mfl κ τ).set 26 (.int x))) = LM κ (s_any τ x) X := funext fun k => match k with
  | 0 => rfl
  | 1 => rfl
  | 2 => rfl
  | 3 => rfl
  | 4 => rfl
  | 5 => rfl
  | 6 => rfl
  | 7 => rfl
  | 8 => rfl
  | 9 => rfl
  | 10 => rfl
  | 11 => rfl
  | 12 => rfl
  | 13 => rfl
  | 14 => rfl
  | k + 15 => if_neg (by omega)
end
section
def rm_M_under : Room := { frames := 0, cells := 0, slots := 0, locals := 0 }
theorem dM_under_0 : decode cM_under 0 = .ok (.lload_n 0, 1) := by decide +kernel
theorem dM_under_1 : decode cM_under 1 = .ok (.lload_n 2, 1) := by decide +kernel
theorem dM_under_2 : decode cM_under 2 = .ok (.ldiv, 1) := by decide +kernel
theorem dM_under_3 : decode cM_under 3 = .ok (.lstore 4, 2) := by decide +kernel
theorem dM_under_5 : decode cM_under 5 = .ok (.lload_n 0, 1) := by decide +kernel
theorem dM_under_6 : decode cM_under 6 = .ok (.lload_n 2, 1) := by decide +kernel
theorem dM_under_7 : decode cM_under 7 = .ok (.lrem, 1) := by decide +kernel
theorem dM_under_8 : decode cM_under 8 = .ok (.lconst 0, 1) := by decide +kernel
theorem dM_under_9 : decode cM_under 9 = .ok (.lcmp, 1) := by decide +kernel
theorem dM_under_10 : decode cM_under 10 = .ok (.ifCond .eq 35, 3) := by decide +kernel
theorem dM_under_13 : decode cM_under 13 = .ok (.lload_n 0, 1) := by decide +kernel
theorem dM_under_14 : decode cM_under 14 = .ok (.lconst 0, 1) := by decide +kernel
theorem dM_under_15 : decode cM_under 15 = .ok (.lcmp, 1) := by decide +kernel
theorem dM_under_16 : decode cM_under 16 = .ok (.ifCond .ge 7, 3) := by decide +kernel
theorem dM_under_19 : decode cM_under 19 = .ok (.iconst 1, 1) := by decide +kernel
theorem dM_under_20 : decode cM_under 20 = .ok (.goto 4, 3) := by decide +kernel
theorem dM_under_23 : decode cM_under 23 = .ok (.iconst 0, 1) := by decide +kernel
theorem dM_under_24 : decode cM_under 24 = .ok (.lload_n 2, 1) := by decide +kernel
theorem dM_under_25 : decode cM_under 25 = .ok (.lconst 0, 1) := by decide +kernel
theorem dM_under_26 : decode cM_under 26 = .ok (.lcmp, 1) := by decide +kernel
theorem dM_under_27 : decode cM_under 27 = .ok (.ifCond .ge 7, 3) := by decide +kernel
theorem dM_under_30 : decode cM_under 30 = .ok (.iconst 1, 1) := by decide +kernel
theorem dM_under_31 : decode cM_under 31 = .ok (.goto 4, 3) := by decide +kernel
theorem dM_under_34 : decode cM_under 34 = .ok (.iconst 0, 1) := by decide +kernel
theorem dM_under_35 : decode cM_under 35 = .ok (.if_icmp .eq 10, 3) := by decide +kernel
theorem dM_under_38 : decode cM_under 38 = .ok (.lload 4, 2) := by decide +kernel
theorem dM_under_40 : decode cM_under 40 = .ok (.lconst 1, 1) := by decide +kernel
theorem dM_under_41 : decode cM_under 41 = .ok (.lsub, 1) := by decide +kernel
theorem dM_under_42 : decode cM_under 42 = .ok (.goto 5, 3) := by decide +kernel
theorem dM_under_45 : decode cM_under 45 = .ok (.lload 4, 2) := by decide +kernel
theorem dM_under_47 : decode cM_under 47 = .ok (.lreturn, 1) := by decide +kernel
noncomputable def M_under (F : Nat) (v0 : Int64) (v2 : Int64) : Option (Int64) := gd (¬ v2 = 0) (gd (¬ v2 = 0) (if (v0 - v0 / v2 * v2) = (0 : Int64) then some (v0 / v2) else if (0 : Int64) ≤ v0 then if (0 : Int64) ≤ v2 then some (v0 / v2) else some ((v0 / v2) - (1 : Int64)) else if (0 : Int64) ≤ v2 then some ((v0 / v2) - (1 : Int64)) else some (v0 / v2)))
set_option maxHeartbeats 4000000 in
set_option maxRecDepth 100000 in
theorem met_M_under (κ : ctx) (L : Nat → va_E) (F : Nat) (v0 : Int64) (v2 : Int64) {out : Int64} (h : M_under F v0 v2 = some out) : Mt yM_under cM_under 6 (some .long) rm_M_under κ [.long v0, .long v2] L (some (.long out)) L := by
  refine Mt.of (by decide) (Nat.le_of_ble_eq_true rfl) ?_
  intro g G Fh
  unfold M_under at h
  show J g κ 6 0 [(0, .long v0), (2, .long v2)] [] L
  refine w_lload_n (pc := 0) (q := 0) G dM_under_0 rfl rfl ?_
  refine w_lload_n (pc := 1) (q := 1) G dM_under_1 rfl rfl ?_
  obtain ⟨z2, h⟩ := gd_some h
  refine w_ldiv (pc := 2) G dM_under_2 z2 ?_
  refine w_lstore (pc := 3) (lv' := [(4, .long (v0 / v2)), (0, .long v0), (2, .long v2)]) G dM_under_3 (by decide) rfl ?_
  refine w_lload_n (pc := 5) (q := 1) G dM_under_5 rfl rfl ?_
  refine w_lload_n (pc := 6) (q := 2) G dM_under_6 rfl rfl ?_
  obtain ⟨z7, h⟩ := gd_some h
  refine w_lrem (pc := 7) G dM_under_7 z7 ?_
  refine w_lconst (pc := 8) (v := (0 : Int64)) G dM_under_8 (by decide) ?_
  refine w_lc_eq (pc := 9) (tgt := 45) G dM_under_9 dM_under_10 (by decide) (fun c9 => ?_) (fun c9 => ?_)
  · have h := if_t c9 h
    refine w_lload (pc := 45) (q := 0) G dM_under_45 rfl ?_
    obtain rfl := Option.some.inj h
    exact w_lret (pc := 47) G dM_under_47 Fh
  · have h := if_f c9 h
    refine w_lload_n (pc := 13) (q := 1) G dM_under_13 rfl rfl ?_
    refine w_lconst (pc := 14) (v := (0 : Int64)) G dM_under_14 (by decide) ?_
    refine w_lc_ge (pc := 15) (tgt := 23) G dM_under_15 dM_under_16 (by decide) (fun c15 => ?_) (fun c15 => ?_)
    · have h := if_t c15 h
      refine w_iconst (pc := 23) (v := (0 : Int32)) G dM_under_23 (by decide) ?_
      refine w_lload_n (pc := 24) (q := 2) G dM_under_24 rfl rfl ?_
      refine w_lconst (pc := 25) (v := (0 : Int64)) G dM_under_25 (by decide) ?_
      refine w_lc_ge (pc := 26) (tgt := 34) G dM_under_26 dM_under_27 (by decide) (fun c26 => ?_) (fun c26 => ?_)
      · have h := if_t c26 h
        refine w_iconst (pc := 34) (v := (0 : Int32)) G dM_under_34 (by decide) ?_
        refine w_icmp_eq (pc := 35) (tgt := 45) G dM_under_35 (by decide) (fun _ => ?_) (fun c => absurd (by decide) c)
        refine w_lload (pc := 45) (q := 0) G dM_under_45 rfl ?_
        obtain rfl := Option.some.inj h
        exact w_lret (pc := 47) G dM_under_47 Fh
      · have h := if_f c26 h
        refine w_iconst (pc := 30) (v := (1 : Int32)) G dM_under_30 (by decide) ?_
        refine w_goto (pc := 31) (tgt := 35) G dM_under_31 (by decide) ?_
        refine w_icmp_eq (pc := 35) (tgt := 45) G dM_under_35 (by decide) (fun c => absurd c (by decide)) (fun _ => ?_)
        refine w_lload (pc := 38) (q := 0) G dM_under_38 rfl ?_
        refine w_lconst (pc := 40) (v := (1 : Int64)) G dM_under_40 (by decide) ?_
        refine w_lsub (pc := 41) G dM_under_41 ?_
        refine w_goto (pc := 42) (tgt := 47) G dM_under_42 (by decide) ?_
        obtain rfl := Option.some.inj h
        exact w_lret (pc := 47) G dM_under_47 Fh
    · have h := if_f c15 h
      refine w_iconst (pc := 19) (v := (1 : Int32)) G dM_under_19 (by decide) ?_
      refine w_goto (pc := 20) (tgt := 24) G dM_under_20 (by decide) ?_
      refine w_lload_n (pc := 24) (q := 2) G dM_under_24 rfl rfl ?_
      refine w_lconst (pc := 25) (v := (0 : Int64)) G dM_under_25 (by decide) ?_
      refine w_lc_ge (pc := 26) (tgt := 34) G dM_under_26 dM_under_27 (by decide) (fun c26 => ?_) (fun c26 => ?_)
      · have h := if_t c26 h
        refine w_iconst (pc := 34) (v := (0 : Int32)) G dM_under_34 (by decide) ?_
        refine w_icmp_eq (pc := 35) (tgt := 45) G dM_under_35 (by decide) (fun c => absurd c (by decide)) (fun _ => ?_)
        refine w_lload (pc := 38) (q := 0) G dM_under_38 rfl ?_
        refine w_lconst (pc := 40) (v := (1 : Int64)) G dM_under_40 (by decide) ?_
        refine w_lsub (pc := 41) G dM_under_41 ?_
        refine w_goto (pc := 42) (tgt := 47) G dM_under_42 (by decide) ?_
        obtain rfl := Option.some.inj h
        exact w_lret (pc := 47) G dM_under_47 Fh
      · have h := if_f c26 h
        refine w_iconst (pc := 30) (v := (1 : Int32)) G dM_under_30 (by decide) ?_
        refine w_goto (pc := 31) (tgt := 35) G dM_under_31 (by decide) ?_
        refine w_icmp_eq (pc := 35) (tgt := 45) G dM_under_35 (by decide) (fun _ => ?_) (fun c => absurd (by decide) c)
        refine w_lload (pc := 45) (q := 0) G dM_under_45 rfl ?_
        obtain rfl := Option.some.inj h
        exact w_lret (pc := 47) G dM_under_47 Fh
def rm_M_within : Room := { frames := 0, cells := 0, slots := 0, locals := 0 }
theorem dM_within_0 : decode cM_within 0 = .ok (.iload_n 0, 1) := by decide +kernel
theorem dM_within_1 : decode cM_within 1 = .ok (.iload 4, 2) := by decide +kernel
theorem dM_within_3 : decode cM_within 3 = .ok (.ineg, 1) := by decide +kernel
theorem dM_within_4 : decode cM_within 4 = .ok (.if_icmp .lt 52, 3) := by decide +kernel
theorem dM_within_7 : decode cM_within 7 = .ok (.iload_n 0, 1) := by decide +kernel
theorem dM_within_8 : decode cM_within 8 = .ok (.iload 4, 2) := by decide +kernel
theorem dM_within_10 : decode cM_within 10 = .ok (.if_icmp .gt 46, 3) := by decide +kernel
theorem dM_within_13 : decode cM_within 13 = .ok (.iload_n 1, 1) := by decide +kernel
theorem dM_within_14 : decode cM_within 14 = .ok (.iload 4, 2) := by decide +kernel
theorem dM_within_16 : decode cM_within 16 = .ok (.ineg, 1) := by decide +kernel
theorem dM_within_17 : decode cM_within 17 = .ok (.if_icmp .lt 39, 3) := by decide +kernel
theorem dM_within_20 : decode cM_within 20 = .ok (.iload_n 1, 1) := by decide +kernel
theorem dM_within_21 : decode cM_within 21 = .ok (.iload 4, 2) := by decide +kernel
theorem dM_within_23 : decode cM_within 23 = .ok (.if_icmp .gt 33, 3) := by decide +kernel
theorem dM_within_26 : decode cM_within 26 = .ok (.iload_n 2, 1) := by decide +kernel
theorem dM_within_27 : decode cM_within 27 = .ok (.iload 4, 2) := by decide +kernel
theorem dM_within_29 : decode cM_within 29 = .ok (.ineg, 1) := by decide +kernel
theorem dM_within_30 : decode cM_within 30 = .ok (.if_icmp .lt 26, 3) := by decide +kernel
theorem dM_within_33 : decode cM_within 33 = .ok (.iload_n 2, 1) := by decide +kernel
theorem dM_within_34 : decode cM_within 34 = .ok (.iload 4, 2) := by decide +kernel
theorem dM_within_36 : decode cM_within 36 = .ok (.if_icmp .gt 20, 3) := by decide +kernel
theorem dM_within_39 : decode cM_within 39 = .ok (.iload_n 3, 1) := by decide +kernel
theorem dM_within_40 : decode cM_within 40 = .ok (.iload 4, 2) := by decide +kernel
theorem dM_within_42 : decode cM_within 42 = .ok (.ineg, 1) := by decide +kernel
theorem dM_within_43 : decode cM_within 43 = .ok (.if_icmp .lt 13, 3) := by decide +kernel
theorem dM_within_46 : decode cM_within 46 = .ok (.iload_n 3, 1) := by decide +kernel
theorem dM_within_47 : decode cM_within 47 = .ok (.iload 4, 2) := by decide +kernel
theorem dM_within_49 : decode cM_within 49 = .ok (.if_icmp .gt 7, 3) := by decide +kernel
theorem dM_within_52 : decode cM_within 52 = .ok (.iconst 1, 1) := by decide +kernel
theorem dM_within_53 : decode cM_within 53 = .ok (.goto 4, 3) := by decide +kernel
theorem dM_within_56 : decode cM_within 56 = .ok (.iconst 0, 1) := by decide +kernel
theorem dM_within_57 : decode cM_within 57 = .ok (.ireturn, 1) := by decide +kernel
noncomputable def M_within (F : Nat) (v0 : Int32) (v1 : Int32) (v2 : Int32) (v3 : Int32) (v4 : Int32) : Option (Int32) := if v0 < (-v4) then some (0 : Int32) else if v4 < v0 then some (0 : Int32) else if v1 < (-v4) then some (0 : Int32) else if v4 < v1 then some (0 : Int32) else if v2 < (-v4) then some (0 : Int32) else if v4 < v2 then some (0 : Int32) else if v3 < (-v4) then some (0 : Int32) else if v4 < v3 then some (0 : Int32) else some (1 : Int32)
set_option maxHeartbeats 4000000 in
set_option maxRecDepth 100000 in
theorem met_M_within (κ : ctx) (L : Nat → va_E) (F : Nat) (v0 : Int32) (v1 : Int32) (v2 : Int32) (v3 : Int32) (v4 : Int32) {out : Int32} (h : M_within F v0 v1 v2 v3 v4 = some out) : Mt yM_within cM_within 5 (some .boolean) rm_M_within κ [.int v0, .int v1, .int v2, .int v3, .int v4] L (some (.int out)) L := by
  refine Mt.of (by decide) (Nat.le_of_ble_eq_true rfl) ?_
  intro g G Fh
  unfold M_within at h
  show J g κ 5 0 [(0, .int v0), (1, .int v1), (2, .int v2), (3, .int v3), (4, .int v4)] [] L
  refine w_iload_n (pc := 0) (q := 0) G dM_within_0 rfl rfl ?_
  refine w_iload (pc := 1) (q := 4) G dM_within_1 rfl ?_
  refine w_ineg (pc := 3) G dM_within_3 ?_
  refine w_icmp_lt (pc := 4) (tgt := 56) G dM_within_4 (by decide) (fun c4 => ?_) (fun c4 => ?_)
  · have h := if_t c4 h
    refine w_iconst (pc := 56) (v := (0 : Int32)) G dM_within_56 (by decide) ?_
    obtain rfl := Option.some.inj h
    exact w_zret (pc := 57) G rfl dM_within_57 Fh
  · have h := if_f c4 h
    refine w_iload_n (pc := 7) (q := 0) G dM_within_7 rfl rfl ?_
    refine w_iload (pc := 8) (q := 4) G dM_within_8 rfl ?_
    refine w_icmp_gt (pc := 10) (tgt := 56) G dM_within_10 (by decide) (fun c10 => ?_) (fun c10 => ?_)
    · have h := if_t c10 h
      refine w_iconst (pc := 56) (v := (0 : Int32)) G dM_within_56 (by decide) ?_
      obtain rfl := Option.some.inj h
      exact w_zret (pc := 57) G rfl dM_within_57 Fh
    · have h := if_f c10 h
      refine w_iload_n (pc := 13) (q := 1) G dM_within_13 rfl rfl ?_
      refine w_iload (pc := 14) (q := 4) G dM_within_14 rfl ?_
      refine w_ineg (pc := 16) G dM_within_16 ?_
      refine w_icmp_lt (pc := 17) (tgt := 56) G dM_within_17 (by decide) (fun c17 => ?_) (fun c17 => ?_)
      · have h := if_t c17 h
        refine w_iconst (pc := 56) (v := (0 : Int32)) G dM_within_56 (by decide) ?_
        obtain rfl := Option.some.inj h
        exact w_zret (pc := 57) G rfl dM_within_57 Fh
      · have h := if_f c17 h
        refine w_iload_n (pc := 20) (q := 1) G dM_within_20 rfl rfl ?_
        refine w_iload (pc := 21) (q := 4) G dM_within_21 rfl ?_
        refine w_icmp_gt (pc := 23) (tgt := 56) G dM_within_23 (by decide) (fun c23 => ?_) (fun c23 => ?_)
        · have h := if_t c23 h
          refine w_iconst (pc := 56) (v := (0 : Int32)) G dM_within_56 (by decide) ?_
          obtain rfl := Option.some.inj h
          exact w_zret (pc := 57) G rfl dM_within_57 Fh
        · have h := if_f c23 h
          refine w_iload_n (pc := 26) (q := 2) G dM_within_26 rfl rfl ?_
          refine w_iload (pc := 27) (q := 4) G dM_within_27 rfl ?_
          refine w_ineg (pc := 29) G dM_within_29 ?_
          refine w_icmp_lt (pc := 30) (tgt := 56) G dM_within_30 (by decide) (fun c30 => ?_) (fun c30 => ?_)
          · have h := if_t c30 h
            refine w_iconst (pc := 56) (v := (0 : Int32)) G dM_within_56 (by decide) ?_
            obtain rfl := Option.some.inj h
            exact w_zret (pc := 57) G rfl dM_within_57 Fh
          · have h := if_f c30 h
            refine w_iload_n (pc := 33) (q := 2) G dM_within_33 rfl rfl ?_
            refine w_iload (pc := 34) (q := 4) G dM_within_34 rfl ?_
            refine w_icmp_gt (pc := 36) (tgt := 56) G dM_within_36 (by decide) (fun c36 => ?_) (fun c36 => ?_)
            · have h := if_t c36 h
              refine w_iconst (pc := 56) (v := (0 : Int32)) G dM_within_56 (by decide) ?_
              obtain rfl := Option.some.inj h
              exact w_zret (pc := 57) G rfl dM_within_57 Fh
            · have h := if_f c36 h
              refine w_iload_n (pc := 39) (q := 3) G dM_within_39 rfl rfl ?_
              refine w_iload (pc := 40) (q := 4) G dM_within_40 rfl ?_
              refine w_ineg (pc := 42) G dM_within_42 ?_
              refine w_icmp_lt (pc := 43) (tgt := 56) G dM_within_43 (by decide) (fun c43 => ?_) (fun c43 => ?_)
              · have h := if_t c43 h
                refine w_iconst (pc := 56) (v := (0 : Int32)) G dM_within_56 (by decide) ?_
                obtain rfl := Option.some.inj h
                exact w_zret (pc := 57) G rfl dM_within_57 Fh
              · have h := if_f c43 h
                refine w_iload_n (pc := 46) (q := 3) G dM_within_46 rfl rfl ?_
                refine w_iload (pc := 47) (q := 4) G dM_within_47 rfl ?_
                refine w_icmp_gt (pc := 49) (tgt := 56) G dM_within_49 (by decide) (fun c49 => ?_) (fun c49 => ?_)
                · have h := if_t c49 h
                  refine w_iconst (pc := 56) (v := (0 : Int32)) G dM_within_56 (by decide) ?_
                  obtain rfl := Option.some.inj h
                  exact w_zret (pc := 57) G rfl dM_within_57 Fh
                · have h := if_f c49 h
                  refine w_iconst (pc := 52) (v := (1 : Int32)) G dM_within_52 (by decide) ?_
                  refine w_goto (pc := 53) (tgt := 57) G dM_within_53 (by decide) ?_
                  obtain rfl := Option.some.inj h
                  exact w_zret (pc := 57) G rfl dM_within_57 Fh
def rm_M_rowAt : Room := { frames := 0, cells := 0, slots := 0, locals := 0 }
theorem dM_rowAt_0 : decode cM_rowAt 0 = .ok (.iconst (-1), 1) := by decide +kernel
theorem dM_rowAt_1 : decode cM_rowAt 1 = .ok (.istore_n 2, 1) := by decide +kernel
theorem dM_rowAt_2 : decode cM_rowAt 2 = .ok (.iconst 0, 1) := by decide +kernel
theorem dM_rowAt_3 : decode cM_rowAt 3 = .ok (.istore_n 3, 1) := by decide +kernel
theorem dM_rowAt_4 : decode cM_rowAt 4 = .ok (.iload_n 3, 1) := by decide +kernel
theorem dM_rowAt_5 : decode cM_rowAt 5 = .ok (.aload_n 0, 1) := by decide +kernel
theorem dM_rowAt_6 : decode cM_rowAt 6 = .ok (.getfield 74, 3) := by decide +kernel
theorem dM_rowAt_9 : decode cM_rowAt 9 = .ok (.if_icmp .ge 25, 3) := by decide +kernel
theorem dM_rowAt_12 : decode cM_rowAt 12 = .ok (.aload_n 0, 1) := by decide +kernel
theorem dM_rowAt_13 : decode cM_rowAt 13 = .ok (.getfield 17, 3) := by decide +kernel
theorem dM_rowAt_16 : decode cM_rowAt 16 = .ok (.iload_n 3, 1) := by decide +kernel
theorem dM_rowAt_17 : decode cM_rowAt 17 = .ok (.iaload, 1) := by decide +kernel
theorem dM_rowAt_18 : decode cM_rowAt 18 = .ok (.iload_n 1, 1) := by decide +kernel
theorem dM_rowAt_19 : decode cM_rowAt 19 = .ok (.if_icmp .ne 7, 3) := by decide +kernel
theorem dM_rowAt_22 : decode cM_rowAt 22 = .ok (.iload_n 3, 1) := by decide +kernel
theorem dM_rowAt_23 : decode cM_rowAt 23 = .ok (.goto 4, 3) := by decide +kernel
theorem dM_rowAt_26 : decode cM_rowAt 26 = .ok (.iload_n 2, 1) := by decide +kernel
theorem dM_rowAt_27 : decode cM_rowAt 27 = .ok (.istore_n 2, 1) := by decide +kernel
theorem dM_rowAt_28 : decode cM_rowAt 28 = .ok (.iinc 3 1, 3) := by decide +kernel
theorem dM_rowAt_31 : decode cM_rowAt 31 = .ok (.goto (-27), 3) := by decide +kernel
theorem dM_rowAt_34 : decode cM_rowAt 34 = .ok (.iload_n 2, 1) := by decide +kernel
theorem dM_rowAt_35 : decode cM_rowAt 35 = .ok (.ireturn, 1) := by decide +kernel
noncomputable def lM_rowAt_4 (F : Nat) (τ : MS) (v1 : Int32) : Nat → Int32 → Int32 → Option (Int32)
  | 0, _, _ => none
  | n + 1, v2, v3 => if (m_rows τ) ≤ v3 then some (v2) else gd (vp_in v3 5) (if ((m_pivot τ) v3.toNatClampNeg) = v1 then lM_rowAt_4 F τ v1 n v3 (v3 + 1) else lM_rowAt_4 F τ v1 n v2 (v3 + 1))
set_option maxHeartbeats 4000000 in
set_option maxRecDepth 100000 in
theorem lM_rowAt_4_ok {g : Gm} {κ : ctx} (G : OK g κ RM cM_rowAt 4 (some .int) rm_M_rowAt) (X : Nat → va_E) (F : Nat) (τ : MS) (v1 : Int32) : ∀ (n : Nat) (v2 : Int32) (v3 : Int32) (out : Int32), lM_rowAt_4 F τ v1 n v2 v3 = some out → (J g κ 4 34 [(2, .int out)] [] (LM κ τ X)) → J g κ 4 4 [(0, .ref (κ.1 0)), (1, .int v1), (2, .int v2), (3, .int v3)] [] (LM κ τ X) := by
  intro n
  induction n with
  | zero =>
    intro v2 v3
    intro out h
    rw [lM_rowAt_4] at h
    cases h
  | succ n ih =>
    intro v2 v3 out h K
    rw [lM_rowAt_4] at h
    refine w_iload_n (pc := 4) (q := 3) G dM_rowAt_4 rfl rfl ?_
    refine w_aload_n (pc := 5) (q := 0) G dM_rowAt_5 rfl rfl ?_
    refine w_get (pc := 6) (v := .int (m_rows τ)) (fs := mfl κ τ) G 0 (by decide) rfl rfl wsM_ok 4 (by decide) wd494 rfl dM_rowAt_6 ?_
    refine w_icmp_ge (pc := 9) (tgt := 34) G dM_rowAt_9 (by decide) (fun c9 => ?_) (fun c9 => ?_)
    · have h := if_t c9 h
      obtain rfl := Option.some.inj h
      refine w_sub (lv' := [(2, .int v2)]) [2] rfl ?_
      exact K
    · have h := if_f c9 h
      refine w_aload_n (pc := 12) (q := 0) G dM_rowAt_12 rfl rfl ?_
      refine w_get (pc := 13) (v := .ref (κ.1 3)) (fs := mfl κ τ) G 0 (by decide) rfl rfl wsM_ok 6 (by decide) wd496 rfl dM_rowAt_13 ?_
      refine w_iload_n (pc := 16) (q := 3) G dM_rowAt_16 rfl rfl ?_
      obtain ⟨i17, h⟩ := gd_some h
      refine w_iald (pc := 17) (n := 5) (f := (m_pivot τ)) G 3 (by decide) rfl i17 dM_rowAt_17 ?_
      refine w_iload_n (pc := 18) (q := 1) G dM_rowAt_18 rfl rfl ?_
      refine w_icmp_ne (pc := 19) (tgt := 26) G dM_rowAt_19 (by decide) (fun c19 => ?_) (fun c19 => ?_)
      · have h := if_t c19 h
        refine w_iload_n (pc := 22) (q := 3) G dM_rowAt_22 rfl rfl ?_
        refine w_goto (pc := 23) (tgt := 27) G dM_rowAt_23 (by decide) ?_
        refine w_istore_n (pc := 27) (lv' := [(2, .int v3), (0, .ref (κ.1 0)), (1, .int v1), (3, .int v3)]) G dM_rowAt_27 rfl (by decide) rfl ?_
        refine w_iinc (pc := 28) (q0 := 3) (v := (v3 + 1)) (lv' := [(3, .int (v3 + 1)), (2, .int v3), (0, .ref (κ.1 0)), (1, .int v1)]) G dM_rowAt_28 rfl rfl (by decide) rfl ?_
        refine w_goto (pc := 31) (tgt := 4) G dM_rowAt_31 (by decide) ?_
        refine w_sub (lv' := [(0, .ref (κ.1 0)), (1, .int v1), (2, .int v3), (3, .int (v3 + 1))]) [2, 3, 1, 0] rfl ?_
        exact ih v3 (v3 + 1) out h K
      · have h := if_f c19 h
        refine w_iload_n (pc := 26) (q := 2) G dM_rowAt_26 rfl rfl ?_
        refine w_istore_n (pc := 27) (lv' := [(2, .int v2), (0, .ref (κ.1 0)), (1, .int v1), (3, .int v3)]) G dM_rowAt_27 rfl (by decide) rfl ?_
        refine w_iinc (pc := 28) (q0 := 3) (v := (v3 + 1)) (lv' := [(3, .int (v3 + 1)), (2, .int v2), (0, .ref (κ.1 0)), (1, .int v1)]) G dM_rowAt_28 rfl rfl (by decide) rfl ?_
        refine w_goto (pc := 31) (tgt := 4) G dM_rowAt_31 (by decide) ?_
        refine w_sub (lv' := [(0, .ref (κ.1 0)), (1, .int v1), (2, .int v2), (3, .int (v3 + 1))]) [2, 3, 1, 0] rfl ?_
        exact ih v2 (v3 + 1) out h K
noncomputable def M_rowAt (F : Nat) (τ : MS) (v1 : Int32) : Option (Int32) := (lM_rowAt_4 F τ v1 F (-1 : Int32) (0 : Int32)).bind (fun o4_6 => some o4_6)
set_option maxHeartbeats 4000000 in
set_option maxRecDepth 100000 in
theorem met_M_rowAt (κ : ctx) (X : Nat → va_E) (F : Nat) (τ : MS) (v1 : Int32) {out : Int32} (h : M_rowAt F τ v1 = some out) : Mt yM_rowAt cM_rowAt 4 (some .int) rm_M_rowAt κ [.ref (κ.1 0), .int v1] (LM κ τ X) (some (.int out)) (LM κ τ X) := by
  refine Mt.of (by decide) (Nat.le_of_ble_eq_true rfl) ?_
  intro g G Fh
  unfold M_rowAt at h
  show J g κ 4 0 [(0, .ref (κ.1 0)), (1, .int v1)] [] (LM κ τ X)
  refine w_iconst (pc := 0) (v := (-1 : Int32)) G dM_rowAt_0 (by decide) ?_
  refine w_istore_n (pc := 1) (lv' := [(2, .int (-1 : Int32)), (0, .ref (κ.1 0)), (1, .int v1)]) G dM_rowAt_1 rfl (by decide) rfl ?_
  refine w_iconst (pc := 2) (v := (0 : Int32)) G dM_rowAt_2 (by decide) ?_
  refine w_istore_n (pc := 3) (lv' := [(3, .int (0 : Int32)), (2, .int (-1 : Int32)), (0, .ref (κ.1 0)), (1, .int v1)]) G dM_rowAt_3 rfl (by decide) rfl ?_
  refine w_sub (lv' := [(0, .ref (κ.1 0)), (1, .int v1), (2, .int (-1 : Int32)), (3, .int (0 : Int32))]) [2, 3, 1, 0] rfl ?_
  obtain ⟨o4_6, eo4_6, h⟩ := bd h
  refine lM_rowAt_4_ok G X F τ v1 F (-1 : Int32) (0 : Int32) o4_6 eo4_6 ?_
  refine w_iload_n (pc := 34) (q := 0) G dM_rowAt_34 rfl rfl ?_
  obtain rfl := Option.some.inj h
  exact w_iret (pc := 35) G dM_rowAt_35 Fh
def rm_M_tidy : Room := { frames := 1, cells := 0, slots := 0, locals := 25 }
theorem dM_tidy_0 : decode cM_tidy 0 = .ok (.iload_n 1, 1) := by decide +kernel
theorem dM_tidy_1 : decode cM_tidy 1 = .ok (.iconst 1, 1) := by decide +kernel
theorem dM_tidy_2 : decode cM_tidy 2 = .ok (.iadd, 1) := by decide +kernel
theorem dM_tidy_3 : decode cM_tidy 3 = .ok (.istore_n 2, 1) := by decide +kernel
theorem dM_tidy_4 : decode cM_tidy 4 = .ok (.iload_n 2, 1) := by decide +kernel
theorem dM_tidy_5 : decode cM_tidy 5 = .ok (.iconst 4, 1) := by decide +kernel
theorem dM_tidy_6 : decode cM_tidy 6 = .ok (.if_icmp .ge 79, 3) := by decide +kernel
theorem dM_tidy_9 : decode cM_tidy 9 = .ok (.aload_n 0, 1) := by decide +kernel
theorem dM_tidy_10 : decode cM_tidy 10 = .ok (.iload_n 2, 1) := by decide +kernel
theorem dM_tidy_11 : decode cM_tidy 11 = .ok (.invokevirtual 77, 3) := by decide +kernel
theorem dM_tidy_14 : decode cM_tidy 14 = .ok (.istore_n 3, 1) := by decide +kernel
theorem dM_tidy_15 : decode cM_tidy 15 = .ok (.iload_n 3, 1) := by decide +kernel
theorem dM_tidy_16 : decode cM_tidy 16 = .ok (.ifCond .lt 63, 3) := by decide +kernel
theorem dM_tidy_19 : decode cM_tidy 19 = .ok (.aload_n 0, 1) := by decide +kernel
theorem dM_tidy_20 : decode cM_tidy 20 = .ok (.getfield 20, 3) := by decide +kernel
theorem dM_tidy_23 : decode cM_tidy 23 = .ok (.iload_n 2, 1) := by decide +kernel
theorem dM_tidy_24 : decode cM_tidy 24 = .ok (.laload, 1) := by decide +kernel
theorem dM_tidy_25 : decode cM_tidy 25 = .ok (.aload_n 0, 1) := by decide +kernel
theorem dM_tidy_26 : decode cM_tidy 26 = .ok (.getfield 13, 3) := by decide +kernel
theorem dM_tidy_29 : decode cM_tidy 29 = .ok (.iconst 4, 1) := by decide +kernel
theorem dM_tidy_30 : decode cM_tidy 30 = .ok (.iload_n 3, 1) := by decide +kernel
theorem dM_tidy_31 : decode cM_tidy 31 = .ok (.imul, 1) := by decide +kernel
theorem dM_tidy_32 : decode cM_tidy 32 = .ok (.iload_n 2, 1) := by decide +kernel
theorem dM_tidy_33 : decode cM_tidy 33 = .ok (.iadd, 1) := by decide +kernel
theorem dM_tidy_34 : decode cM_tidy 34 = .ok (.laload, 1) := by decide +kernel
theorem dM_tidy_35 : decode cM_tidy 35 = .ok (.invokestatic 81, 3) := by decide +kernel
theorem dM_tidy_38 : decode cM_tidy 38 = .ok (.lstore 4, 2) := by decide +kernel
theorem dM_tidy_40 : decode cM_tidy 40 = .ok (.iload_n 2, 1) := by decide +kernel
theorem dM_tidy_41 : decode cM_tidy 41 = .ok (.istore 6, 2) := by decide +kernel
theorem dM_tidy_43 : decode cM_tidy 43 = .ok (.iload 6, 2) := by decide +kernel
theorem dM_tidy_45 : decode cM_tidy 45 = .ok (.iconst 4, 1) := by decide +kernel
theorem dM_tidy_46 : decode cM_tidy 46 = .ok (.if_icmp .ge 33, 3) := by decide +kernel
theorem dM_tidy_49 : decode cM_tidy 49 = .ok (.aload_n 0, 1) := by decide +kernel
theorem dM_tidy_50 : decode cM_tidy 50 = .ok (.getfield 20, 3) := by decide +kernel
theorem dM_tidy_53 : decode cM_tidy 53 = .ok (.iload 6, 2) := by decide +kernel
theorem dM_tidy_55 : decode cM_tidy 55 = .ok (.dup2, 1) := by decide +kernel
theorem dM_tidy_56 : decode cM_tidy 56 = .ok (.laload, 1) := by decide +kernel
theorem dM_tidy_57 : decode cM_tidy 57 = .ok (.lload 4, 2) := by decide +kernel
theorem dM_tidy_59 : decode cM_tidy 59 = .ok (.aload_n 0, 1) := by decide +kernel
theorem dM_tidy_60 : decode cM_tidy 60 = .ok (.getfield 13, 3) := by decide +kernel
theorem dM_tidy_63 : decode cM_tidy 63 = .ok (.iconst 4, 1) := by decide +kernel
theorem dM_tidy_64 : decode cM_tidy 64 = .ok (.iload_n 3, 1) := by decide +kernel
theorem dM_tidy_65 : decode cM_tidy 65 = .ok (.imul, 1) := by decide +kernel
theorem dM_tidy_66 : decode cM_tidy 66 = .ok (.iload 6, 2) := by decide +kernel
theorem dM_tidy_68 : decode cM_tidy 68 = .ok (.iadd, 1) := by decide +kernel
theorem dM_tidy_69 : decode cM_tidy 69 = .ok (.laload, 1) := by decide +kernel
theorem dM_tidy_70 : decode cM_tidy 70 = .ok (.lmul, 1) := by decide +kernel
theorem dM_tidy_71 : decode cM_tidy 71 = .ok (.lsub, 1) := by decide +kernel
theorem dM_tidy_72 : decode cM_tidy 72 = .ok (.lastore, 1) := by decide +kernel
theorem dM_tidy_73 : decode cM_tidy 73 = .ok (.iinc 6 1, 3) := by decide +kernel
theorem dM_tidy_76 : decode cM_tidy 76 = .ok (.goto (-33), 3) := by decide +kernel
theorem dM_tidy_79 : decode cM_tidy 79 = .ok (.iinc 2 1, 3) := by decide +kernel
theorem dM_tidy_82 : decode cM_tidy 82 = .ok (.goto (-78), 3) := by decide +kernel
theorem dM_tidy_85 : decode cM_tidy 85 = .ok (.return_, 1) := by decide +kernel
theorem cb_M_rowAt_M_tidy : CB yM_rowAt cM_rowAt 4 (some .int) rm_M_rowAt rm_M_tidy 1 := ⟨wd606, wd8, by decide +kernel, rfl, rfl, by decide⟩
theorem cb_M_under_M_tidy : CB yM_under cM_under 6 (some .long) rm_M_under rm_M_tidy 2 := ⟨wd613, wd8, by decide +kernel, rfl, rfl, by decide⟩
noncomputable def lM_tidy_43 (F : Nat) (v2 : Int32) (v3 : Int32) (v4 : Int64) : Nat → Int32 → MS → Option (MS)
  | 0, _, _ => none
  | n + 1, v6, τ => if (4 : Int32) ≤ v6 then some (τ) else gd (vp_in v6 4) (gd (vp_in (((4 : Int32) * v3) + v6) 16) (gd (vp_in v6 4) (lM_tidy_43 F v2 v3 v4 n (v6 + 1) (s_fresh τ (vp_updL (m_fresh τ) v6.toNatClampNeg (((m_fresh τ) v6.toNatClampNeg) - (v4 * ((m_row τ) (((4 : Int32) * v3) + v6).toNatClampNeg))))))))
set_option maxHeartbeats 4000000 in
set_option maxRecDepth 100000 in
theorem lM_tidy_43_ok {g : Gm} {κ : ctx} (G : OK g κ RM cM_tidy 7 none rm_M_tidy) (X : Nat → va_E) (F : Nat) (v2 : Int32) (v3 : Int32) (v4 : Int64) : ∀ (n : Nat) (v6 : Int32) (τ : MS) (out : MS), lM_tidy_43 F v2 v3 v4 n v6 τ = some out → (J g κ 7 79 [(0, .ref (κ.1 0)), (2, .int v2)] [] (LM κ out X)) → J g κ 7 43 [(0, .ref (κ.1 0)), (2, .int v2), (3, .int v3), (4, .long v4), (6, .int v6)] [] (LM κ τ X) := by
  intro n
  induction n with
  | zero =>
    intro v6 τ
    intro out h
    rw [lM_tidy_43] at h
    cases h
  | succ n ih =>
    intro v6 τ out h K
    rw [lM_tidy_43] at h
    refine w_iload (pc := 43) (q := 4) G dM_tidy_43 rfl ?_
    refine w_iconst (pc := 45) (v := (4 : Int32)) G dM_tidy_45 (by decide) ?_
    refine w_icmp_ge (pc := 46) (tgt := 79) G dM_tidy_46 (by decide) (fun c46 => ?_) (fun c46 => ?_)
    · have h := if_t c46 h
      obtain rfl := Option.some.inj h
      refine w_sub (lv' := [(0, .ref (κ.1 0)), (2, .int v2)]) [0, 1] rfl ?_
      exact K
    · have h := if_f c46 h
      refine w_aload_n (pc := 49) (q := 0) G dM_tidy_49 rfl rfl ?_
      refine w_get (pc := 50) (v := .ref (κ.1 4)) (fs := mfl κ τ) G 0 (by decide) rfl rfl wsM_ok 7 (by decide) wd497 rfl dM_tidy_50 ?_
      refine w_iload (pc := 53) (q := 4) G dM_tidy_53 rfl ?_
      refine w_dup2_11 (pc := 55) G dM_tidy_55 rfl rfl ?_
      obtain ⟨i56, h⟩ := gd_some h
      refine w_lald (pc := 56) (n := 4) (f := (m_fresh τ)) G 4 (by decide) rfl i56 dM_tidy_56 ?_
      refine w_lload (pc := 57) (q := 3) G dM_tidy_57 rfl ?_
      refine w_aload_n (pc := 59) (q := 0) G dM_tidy_59 rfl rfl ?_
      refine w_get (pc := 60) (v := .ref (κ.1 2)) (fs := mfl κ τ) G 0 (by decide) rfl rfl wsM_ok 5 (by decide) wd495 rfl dM_tidy_60 ?_
      refine w_iconst (pc := 63) (v := (4 : Int32)) G dM_tidy_63 (by decide) ?_
      refine w_iload_n (pc := 64) (q := 2) G dM_tidy_64 rfl rfl ?_
      refine w_imul (pc := 65) G dM_tidy_65 ?_
      refine w_iload (pc := 66) (q := 4) G dM_tidy_66 rfl ?_
      refine w_iadd (pc := 68) G dM_tidy_68 ?_
      obtain ⟨i69, h⟩ := gd_some h
      refine w_lald (pc := 69) (n := 16) (f := (m_row τ)) G 2 (by decide) rfl i69 dM_tidy_69 ?_
      refine w_lmul (pc := 70) G dM_tidy_70 ?_
      refine w_lsub (pc := 71) G dM_tidy_71 ?_
      obtain ⟨i72, h⟩ := gd_some h
      refine w_last (pc := 72) (n := 4) (f := (m_fresh τ)) (L1 := (LM κ (s_fresh τ (vp_updL (m_fresh τ) v6.toNatClampNeg (((m_fresh τ) v6.toNatClampNeg) - (v4 * ((m_row τ) (((4 : Int32) * v3) + v6).toNatClampNeg))))) X)) G 4 (by decide) rfl i72 dM_tidy_72 (LM_fresh κ τ X _) ?_
      refine w_iinc (pc := 73) (q0 := 4) (v := (v6 + 1)) (lv' := [(6, .int (v6 + 1)), (0, .ref (κ.1 0)), (2, .int v2), (3, .int v3), (4, .long v4)]) G dM_tidy_73 rfl rfl (by decide) rfl ?_
      refine w_goto (pc := 76) (tgt := 43) G dM_tidy_76 (by decide) ?_
      refine w_sub (lv' := [(0, .ref (κ.1 0)), (2, .int v2), (3, .int v3), (4, .long v4), (6, .int (v6 + 1))]) [1, 2, 3, 4, 0] rfl ?_
      exact ih (v6 + 1) (s_fresh τ (vp_updL (m_fresh τ) v6.toNatClampNeg (((m_fresh τ) v6.toNatClampNeg) - (v4 * ((m_row τ) (((4 : Int32) * v3) + v6).toNatClampNeg))))) out h K
noncomputable def lM_tidy_4 (F : Nat)  : Nat → Int32 → MS → Option (MS)
  | 0, _, _ => none
  | n + 1, v2, τ => if (4 : Int32) ≤ v2 then some (τ) else (M_rowAt F τ v2).bind (fun r11 => if r11 < 0 then lM_tidy_4 F  n (v2 + 1) τ else gd (vp_in v2 4) (gd (vp_in (((4 : Int32) * r11) + v2) 16) ((M_under F ((m_fresh τ) v2.toNatClampNeg) ((m_row τ) (((4 : Int32) * r11) + v2).toNatClampNeg)).bind (fun r35 => (lM_tidy_43 F v2 r11 r35 F v2 τ).bind (fun o43_9 => lM_tidy_4 F  n (v2 + 1) o43_9)))))
set_option maxHeartbeats 4000000 in
set_option maxRecDepth 100000 in
theorem lM_tidy_4_ok {g : Gm} {κ : ctx} (G : OK g κ RM cM_tidy 7 none rm_M_tidy) (X : Nat → va_E) (F : Nat)  : ∀ (n : Nat) (v2 : Int32) (τ : MS) (out : MS), lM_tidy_4 F  n v2 τ = some out → (J g κ 7 85 [] [] (LM κ out X)) → J g κ 7 4 [(0, .ref (κ.1 0)), (2, .int v2)] [] (LM κ τ X) := by
  intro n
  induction n with
  | zero =>
    intro v2 τ
    intro out h
    rw [lM_tidy_4] at h
    cases h
  | succ n ih =>
    intro v2 τ out h K
    rw [lM_tidy_4] at h
    refine w_iload_n (pc := 4) (q := 1) G dM_tidy_4 rfl rfl ?_
    refine w_iconst (pc := 5) (v := (4 : Int32)) G dM_tidy_5 (by decide) ?_
    refine w_icmp_ge (pc := 6) (tgt := 85) G dM_tidy_6 (by decide) (fun c6 => ?_) (fun c6 => ?_)
    · have h := if_t c6 h
      obtain rfl := Option.some.inj h
      refine w_sub (lv' := []) [] rfl ?_
      exact K
    · have h := if_f c6 h
      refine w_aload_n (pc := 9) (q := 0) G dM_tidy_9 rfl rfl ?_
      refine w_iload_n (pc := 10) (q := 1) G dM_tidy_10 rfl rfl ?_
      obtain ⟨r11, e11, h⟩ := bd h
      refine w_callV (pc := 11) (av := [.int v2]) (rest := []) (v := some (.int r11)) (L' := (LM κ τ X)) (T := TM) (fs := mfl κ τ) G 0 0 27 (by decide) rfl rfl cb_M_rowAt_M_tidy wd605 ws22 wd603 (met_M_rowAt κ X F τ v2 e11) rfl rfl rfl (Nat.le_of_ble_eq_true rfl) dM_tidy_11 ?_
      refine w_istore_n (pc := 14) (lv' := [(3, .int r11), (0, .ref (κ.1 0)), (2, .int v2)]) G dM_tidy_14 rfl (by decide) rfl ?_
      refine w_iload_n (pc := 15) (q := 0) G dM_tidy_15 rfl rfl ?_
      refine w_if_lt (pc := 16) (tgt := 79) G dM_tidy_16 (by decide) (fun c16 => ?_) (fun c16 => ?_)
      · have h := if_t c16 h
        refine w_iinc (pc := 79) (q0 := 2) (v := (v2 + 1)) (lv' := [(2, .int (v2 + 1)), (3, .int r11), (0, .ref (κ.1 0))]) G dM_tidy_79 rfl rfl (by decide) rfl ?_
        refine w_goto (pc := 82) (tgt := 4) G dM_tidy_82 (by decide) ?_
        refine w_sub (lv' := [(0, .ref (κ.1 0)), (2, .int (v2 + 1))]) [2, 0] rfl ?_
        exact ih (v2 + 1) τ out h K
      · have h := if_f c16 h
        refine w_aload_n (pc := 19) (q := 1) G dM_tidy_19 rfl rfl ?_
        refine w_get (pc := 20) (v := .ref (κ.1 4)) (fs := mfl κ τ) G 0 (by decide) rfl rfl wsM_ok 7 (by decide) wd497 rfl dM_tidy_20 ?_
        refine w_iload_n (pc := 23) (q := 2) G dM_tidy_23 rfl rfl ?_
        obtain ⟨i24, h⟩ := gd_some h
        refine w_lald (pc := 24) (n := 4) (f := (m_fresh τ)) G 4 (by decide) rfl i24 dM_tidy_24 ?_
        refine w_aload_n (pc := 25) (q := 1) G dM_tidy_25 rfl rfl ?_
        refine w_get (pc := 26) (v := .ref (κ.1 2)) (fs := mfl κ τ) G 0 (by decide) rfl rfl wsM_ok 5 (by decide) wd495 rfl dM_tidy_26 ?_
        refine w_iconst (pc := 29) (v := (4 : Int32)) G dM_tidy_29 (by decide) ?_
        refine w_iload_n (pc := 30) (q := 0) G dM_tidy_30 rfl rfl ?_
        refine w_imul (pc := 31) G dM_tidy_31 ?_
        refine w_iload_n (pc := 32) (q := 2) G dM_tidy_32 rfl rfl ?_
        refine w_iadd (pc := 33) G dM_tidy_33 ?_
        obtain ⟨i34, h⟩ := gd_some h
        refine w_lald (pc := 34) (n := 16) (f := (m_row τ)) G 2 (by decide) rfl i34 dM_tidy_34 ?_
        obtain ⟨r35, e35, h⟩ := bd h
        refine w_callS (pc := 35) (av := [.long ((m_fresh τ) v2.toNatClampNeg), .long ((m_row τ) (((4 : Int32) * r11) + v2).toNatClampNeg)]) (rest := []) (v := some (.long r35)) (L' := (LM κ τ X)) G cb_M_under_M_tidy wd612 wd611 (met_M_under κ (LM κ τ X) F ((m_fresh τ) v2.toNatClampNeg) ((m_row τ) (((4 : Int32) * r11) + v2).toNatClampNeg) e35) rfl rfl rfl (Nat.le_of_ble_eq_true rfl) dM_tidy_35 ?_
        refine w_lstore (pc := 38) (lv' := [(4, .long r35), (3, .int r11), (0, .ref (κ.1 0)), (2, .int v2)]) G dM_tidy_38 (by decide) rfl ?_
        refine w_iload_n (pc := 40) (q := 3) G dM_tidy_40 rfl rfl ?_
        refine w_istore (pc := 41) (lv' := [(6, .int v2), (4, .long r35), (3, .int r11), (0, .ref (κ.1 0)), (2, .int v2)]) G dM_tidy_41 (by decide) rfl ?_
        refine w_sub (lv' := [(0, .ref (κ.1 0)), (2, .int v2), (3, .int r11), (4, .long r35), (6, .int v2)]) [3, 4, 2, 1, 0] rfl ?_
        obtain ⟨o43_9, eo43_9, h⟩ := bd h
        refine lM_tidy_43_ok G X F v2 r11 r35 F v2 τ o43_9 eo43_9 ?_
        refine w_iinc (pc := 79) (q0 := 1) (v := (v2 + 1)) (lv' := [(2, .int (v2 + 1)), (0, .ref (κ.1 0))]) G dM_tidy_79 rfl rfl (by decide) rfl ?_
        refine w_goto (pc := 82) (tgt := 4) G dM_tidy_82 (by decide) ?_
        refine w_sub (lv' := [(0, .ref (κ.1 0)), (2, .int (v2 + 1))]) [1, 0] rfl ?_
        exact ih (v2 + 1) o43_9 out h K
noncomputable def M_tidy (F : Nat) (τ : MS) (v1 : Int32) : Option (MS) := (lM_tidy_4 F  F (v1 + (1 : Int32)) τ).bind (fun o4_9 => some o4_9)
set_option maxHeartbeats 4000000 in
set_option maxRecDepth 100000 in
theorem met_M_tidy (κ : ctx) (X : Nat → va_E) (F : Nat) (τ : MS) (v1 : Int32) {out : MS} (h : M_tidy F τ v1 = some out) : Mt yM_tidy cM_tidy 7 none rm_M_tidy κ [.ref (κ.1 0), .int v1] (LM κ τ X) none (LM κ out X) := by
  refine Mt.of (by decide) (Nat.le_of_ble_eq_true rfl) ?_
  intro g G Fh
  unfold M_tidy at h
  show J g κ 7 0 [(0, .ref (κ.1 0)), (1, .int v1)] [] (LM κ τ X)
  refine w_iload_n (pc := 0) (q := 1) G dM_tidy_0 rfl rfl ?_
  refine w_iconst (pc := 1) (v := (1 : Int32)) G dM_tidy_1 (by decide) ?_
  refine w_iadd (pc := 2) G dM_tidy_2 ?_
  refine w_istore_n (pc := 3) (lv' := [(2, .int (v1 + (1 : Int32))), (0, .ref (κ.1 0)), (1, .int v1)]) G dM_tidy_3 rfl (by decide) rfl ?_
  refine w_sub (lv' := [(0, .ref (κ.1 0)), (2, .int (v1 + (1 : Int32)))]) [1, 0] rfl ?_
  obtain ⟨o4_9, eo4_9, h⟩ := bd h
  refine lM_tidy_4_ok G X F  F (v1 + (1 : Int32)) τ o4_9 eo4_9 ?_
  obtain rfl := Option.some.inj h
  exact w_vret (pc := 85) G dM_tidy_85 Fh
def rm_M_swap : Room := { frames := 0, cells := 0, slots := 0, locals := 0 }
theorem dM_swap_0 : decode cM_swap 0 = .ok (.iconst 0, 1) := by decide +kernel
theorem dM_swap_1 : decode cM_swap 1 = .ok (.istore_n 2, 1) := by decide +kernel
theorem dM_swap_2 : decode cM_swap 2 = .ok (.iload_n 2, 1) := by decide +kernel
theorem dM_swap_3 : decode cM_swap 3 = .ok (.iconst 4, 1) := by decide +kernel
theorem dM_swap_4 : decode cM_swap 4 = .ok (.if_icmp .ge 43, 3) := by decide +kernel
theorem dM_swap_7 : decode cM_swap 7 = .ok (.aload_n 0, 1) := by decide +kernel
theorem dM_swap_8 : decode cM_swap 8 = .ok (.getfield 20, 3) := by decide +kernel
theorem dM_swap_11 : decode cM_swap 11 = .ok (.iload_n 2, 1) := by decide +kernel
theorem dM_swap_12 : decode cM_swap 12 = .ok (.laload, 1) := by decide +kernel
theorem dM_swap_13 : decode cM_swap 13 = .ok (.lstore_n 3, 1) := by decide +kernel
theorem dM_swap_14 : decode cM_swap 14 = .ok (.aload_n 0, 1) := by decide +kernel
theorem dM_swap_15 : decode cM_swap 15 = .ok (.getfield 20, 3) := by decide +kernel
theorem dM_swap_18 : decode cM_swap 18 = .ok (.iload_n 2, 1) := by decide +kernel
theorem dM_swap_19 : decode cM_swap 19 = .ok (.aload_n 0, 1) := by decide +kernel
theorem dM_swap_20 : decode cM_swap 20 = .ok (.getfield 13, 3) := by decide +kernel
theorem dM_swap_23 : decode cM_swap 23 = .ok (.iconst 4, 1) := by decide +kernel
theorem dM_swap_24 : decode cM_swap 24 = .ok (.iload_n 1, 1) := by decide +kernel
theorem dM_swap_25 : decode cM_swap 25 = .ok (.imul, 1) := by decide +kernel
theorem dM_swap_26 : decode cM_swap 26 = .ok (.iload_n 2, 1) := by decide +kernel
theorem dM_swap_27 : decode cM_swap 27 = .ok (.iadd, 1) := by decide +kernel
theorem dM_swap_28 : decode cM_swap 28 = .ok (.laload, 1) := by decide +kernel
theorem dM_swap_29 : decode cM_swap 29 = .ok (.lastore, 1) := by decide +kernel
theorem dM_swap_30 : decode cM_swap 30 = .ok (.aload_n 0, 1) := by decide +kernel
theorem dM_swap_31 : decode cM_swap 31 = .ok (.getfield 13, 3) := by decide +kernel
theorem dM_swap_34 : decode cM_swap 34 = .ok (.iconst 4, 1) := by decide +kernel
theorem dM_swap_35 : decode cM_swap 35 = .ok (.iload_n 1, 1) := by decide +kernel
theorem dM_swap_36 : decode cM_swap 36 = .ok (.imul, 1) := by decide +kernel
theorem dM_swap_37 : decode cM_swap 37 = .ok (.iload_n 2, 1) := by decide +kernel
theorem dM_swap_38 : decode cM_swap 38 = .ok (.iadd, 1) := by decide +kernel
theorem dM_swap_39 : decode cM_swap 39 = .ok (.lload_n 3, 1) := by decide +kernel
theorem dM_swap_40 : decode cM_swap 40 = .ok (.lastore, 1) := by decide +kernel
theorem dM_swap_41 : decode cM_swap 41 = .ok (.iinc 2 1, 3) := by decide +kernel
theorem dM_swap_44 : decode cM_swap 44 = .ok (.goto (-42), 3) := by decide +kernel
theorem dM_swap_47 : decode cM_swap 47 = .ok (.return_, 1) := by decide +kernel
noncomputable def lM_swap_2 (F : Nat) (v1 : Int32) : Nat → Int32 → MS → Option (MS)
  | 0, _, _ => none
  | n + 1, v2, τ => if (4 : Int32) ≤ v2 then some (τ) else gd (vp_in v2 4) (gd (vp_in (((4 : Int32) * v1) + v2) 16) (gd (vp_in v2 4) (gd (vp_in (((4 : Int32) * v1) + v2) 16) (lM_swap_2 F v1 n (v2 + 1) (s_fresh (s_row τ (vp_updL (m_row τ) (((4 : Int32) * v1) + v2).toNatClampNeg ((m_fresh τ) v2.toNatClampNeg))) (vp_updL (m_fresh τ) v2.toNatClampNeg ((m_row τ) (((4 : Int32) * v1) + v2).toNatClampNeg)))))))
set_option maxHeartbeats 4000000 in
set_option maxRecDepth 100000 in
theorem lM_swap_2_ok {g : Gm} {κ : ctx} (G : OK g κ RM cM_swap 5 none rm_M_swap) (X : Nat → va_E) (F : Nat) (v1 : Int32) : ∀ (n : Nat) (v2 : Int32) (τ : MS) (out : MS), lM_swap_2 F v1 n v2 τ = some out → (J g κ 5 47 [] [] (LM κ out X)) → J g κ 5 2 [(0, .ref (κ.1 0)), (1, .int v1), (2, .int v2)] [] (LM κ τ X) := by
  intro n
  induction n with
  | zero =>
    intro v2 τ
    intro out h
    rw [lM_swap_2] at h
    cases h
  | succ n ih =>
    intro v2 τ out h K
    rw [lM_swap_2] at h
    refine w_iload_n (pc := 2) (q := 2) G dM_swap_2 rfl rfl ?_
    refine w_iconst (pc := 3) (v := (4 : Int32)) G dM_swap_3 (by decide) ?_
    refine w_icmp_ge (pc := 4) (tgt := 47) G dM_swap_4 (by decide) (fun c4 => ?_) (fun c4 => ?_)
    · have h := if_t c4 h
      obtain rfl := Option.some.inj h
      refine w_sub (lv' := []) [] rfl ?_
      exact K
    · have h := if_f c4 h
      refine w_aload_n (pc := 7) (q := 0) G dM_swap_7 rfl rfl ?_
      refine w_get (pc := 8) (v := .ref (κ.1 4)) (fs := mfl κ τ) G 0 (by decide) rfl rfl wsM_ok 7 (by decide) wd497 rfl dM_swap_8 ?_
      refine w_iload_n (pc := 11) (q := 2) G dM_swap_11 rfl rfl ?_
      obtain ⟨i12, h⟩ := gd_some h
      refine w_lald (pc := 12) (n := 4) (f := (m_fresh τ)) G 4 (by decide) rfl i12 dM_swap_12 ?_
      refine w_lstore_n (pc := 13) (lv' := [(3, .long ((m_fresh τ) v2.toNatClampNeg)), (0, .ref (κ.1 0)), (1, .int v1), (2, .int v2)]) G dM_swap_13 rfl (by decide) rfl ?_
      refine w_aload_n (pc := 14) (q := 1) G dM_swap_14 rfl rfl ?_
      refine w_get (pc := 15) (v := .ref (κ.1 4)) (fs := mfl κ τ) G 0 (by decide) rfl rfl wsM_ok 7 (by decide) wd497 rfl dM_swap_15 ?_
      refine w_iload_n (pc := 18) (q := 3) G dM_swap_18 rfl rfl ?_
      refine w_aload_n (pc := 19) (q := 1) G dM_swap_19 rfl rfl ?_
      refine w_get (pc := 20) (v := .ref (κ.1 2)) (fs := mfl κ τ) G 0 (by decide) rfl rfl wsM_ok 5 (by decide) wd495 rfl dM_swap_20 ?_
      refine w_iconst (pc := 23) (v := (4 : Int32)) G dM_swap_23 (by decide) ?_
      refine w_iload_n (pc := 24) (q := 2) G dM_swap_24 rfl rfl ?_
      refine w_imul (pc := 25) G dM_swap_25 ?_
      refine w_iload_n (pc := 26) (q := 3) G dM_swap_26 rfl rfl ?_
      refine w_iadd (pc := 27) G dM_swap_27 ?_
      obtain ⟨i28, h⟩ := gd_some h
      refine w_lald (pc := 28) (n := 16) (f := (m_row τ)) G 2 (by decide) rfl i28 dM_swap_28 ?_
      obtain ⟨i29, h⟩ := gd_some h
      refine w_last (pc := 29) (n := 4) (f := (m_fresh τ)) (L1 := (LM κ (s_fresh τ (vp_updL (m_fresh τ) v2.toNatClampNeg ((m_row τ) (((4 : Int32) * v1) + v2).toNatClampNeg))) X)) G 4 (by decide) rfl i29 dM_swap_29 (LM_fresh κ τ X _) ?_
      refine w_aload_n (pc := 30) (q := 1) G dM_swap_30 rfl rfl ?_
      refine w_get (pc := 31) (v := .ref (κ.1 2)) (fs := mfl κ (s_fresh τ (vp_updL (m_fresh τ) v2.toNatClampNeg ((m_row τ) (((4 : Int32) * v1) + v2).toNatClampNeg)))) G 0 (by decide) rfl rfl wsM_ok 5 (by decide) wd495 rfl dM_swap_31 ?_
      refine w_iconst (pc := 34) (v := (4 : Int32)) G dM_swap_34 (by decide) ?_
      refine w_iload_n (pc := 35) (q := 2) G dM_swap_35 rfl rfl ?_
      refine w_imul (pc := 36) G dM_swap_36 ?_
      refine w_iload_n (pc := 37) (q := 3) G dM_swap_37 rfl rfl ?_
      refine w_iadd (pc := 38) G dM_swap_38 ?_
      refine w_lload_n (pc := 39) (q := 0) G dM_swap_39 rfl rfl ?_
      obtain ⟨i40, h⟩ := gd_some h
      refine w_last (pc := 40) (n := 16) (f := (m_row τ)) (L1 := (LM κ (s_fresh (s_row τ (vp_updL (m_row τ) (((4 : Int32) * v1) + v2).toNatClampNeg ((m_fresh τ) v2.toNatClampNeg))) (vp_updL (m_fresh τ) v2.toNatClampNeg ((m_row τ) (((4 : Int32) * v1) + v2).toNatClampNeg))) X)) G 2 (by decide) rfl i40 dM_swap_40 (LM_row κ (s_fresh τ (vp_updL (m_fresh τ) v2.toNatClampNeg ((m_row τ) (((4 : Int32) * v1) + v2).toNatClampNeg))) X _) ?_
      refine w_iinc (pc := 41) (q0 := 3) (v := (v2 + 1)) (lv' := [(2, .int (v2 + 1)), (3, .long ((m_fresh τ) v2.toNatClampNeg)), (0, .ref (κ.1 0)), (1, .int v1)]) G dM_swap_41 rfl rfl (by decide) rfl ?_
      refine w_goto (pc := 44) (tgt := 2) G dM_swap_44 (by decide) ?_
      refine w_sub (lv' := [(0, .ref (κ.1 0)), (1, .int v1), (2, .int (v2 + 1))]) [2, 3, 0] rfl ?_
      exact ih (v2 + 1) (s_fresh (s_row τ (vp_updL (m_row τ) (((4 : Int32) * v1) + v2).toNatClampNeg ((m_fresh τ) v2.toNatClampNeg))) (vp_updL (m_fresh τ) v2.toNatClampNeg ((m_row τ) (((4 : Int32) * v1) + v2).toNatClampNeg))) out h K
noncomputable def M_swap (F : Nat) (τ : MS) (v1 : Int32) : Option (MS) := (lM_swap_2 F v1 F (0 : Int32) τ).bind (fun o2_4 => some o2_4)
set_option maxHeartbeats 4000000 in
set_option maxRecDepth 100000 in
theorem met_M_swap (κ : ctx) (X : Nat → va_E) (F : Nat) (τ : MS) (v1 : Int32) {out : MS} (h : M_swap F τ v1 = some out) : Mt yM_swap cM_swap 5 none rm_M_swap κ [.ref (κ.1 0), .int v1] (LM κ τ X) none (LM κ out X) := by
  refine Mt.of (by decide) (Nat.le_of_ble_eq_true rfl) ?_
  intro g G Fh
  unfold M_swap at h
  show J g κ 5 0 [(0, .ref (κ.1 0)), (1, .int v1)] [] (LM κ τ X)
  refine w_iconst (pc := 0) (v := (0 : Int32)) G dM_swap_0 (by decide) ?_
  refine w_istore_n (pc := 1) (lv' := [(2, .int (0 : Int32)), (0, .ref (κ.1 0)), (1, .int v1)]) G dM_swap_1 rfl (by decide) rfl ?_
  refine w_sub (lv' := [(0, .ref (κ.1 0)), (1, .int v1), (2, .int (0 : Int32))]) [1, 2, 0] rfl ?_
  obtain ⟨o2_4, eo2_4, h⟩ := bd h
  refine lM_swap_2_ok G X F v1 F (0 : Int32) τ o2_4 eo2_4 ?_
  obtain rfl := Option.some.inj h
  exact w_vret (pc := 47) G dM_swap_47 Fh
end
