theorem w_iconst {g : Gm} {κ : ctx} {own : String} {cc : ByteArray} {nL : Nat} {ret : Option FieldType} {rm : Room} (G : OK g κ own cc nL ret rm) {pc : Nat} {lv : List (Nat × Value)} {rest : List Value} {L : Nat → va_E} {n : Int} {v : Int32} (hd : decode cc pc = .ok (.iconst n, 1)) (hv : Int32.ofInt n = v) (k : J g κ nL (pc + 1) lv (.int v :: rest) L) : J g κ nL pc lv (rest) L := by
  obtain ⟨p, l, e, R, s, m, args, below, meth, c, cells, slots, Q, D, A⟩ := g
  obtain ⟨hx, hb, hml, hr, hlk, hown, hts, hK, hN, hi, hA1, hA2, hc, hs, hR⟩ := G
  intro H locs ls hP hS hl
  exact lv_iconst hx hb hd hv (k H locs ls hP hS hl)
theorem w_bipush {g : Gm} {κ : ctx} {own : String} {cc : ByteArray} {nL : Nat} {ret : Option FieldType} {rm : Room} (G : OK g κ own cc nL ret rm) {pc : Nat} {lv : List (Nat × Value)} {rest : List Value} {L : Nat → va_E} {n : Int} {v : Int32} (hd : decode cc pc = .ok (.bipush n, 2)) (hv : (Int8.ofInt n).toInt32 = v) (k : J g κ nL (pc + 2) lv (.int v :: rest) L) : J g κ nL pc lv (rest) L := by
  obtain ⟨p, l, e, R, s, m, args, below, meth, c, cells, slots, Q, D, A⟩ := g
  obtain ⟨hx, hb, hml, hr, hlk, hown, hts, hK, hN, hi, hA1, hA2, hc, hs, hR⟩ := G
  intro H locs ls hP hS hl
  exact lv_bipush hx hb hd hv (k H locs ls hP hS hl)
theorem w_sipush {g : Gm} {κ : ctx} {own : String} {cc : ByteArray} {nL : Nat} {ret : Option FieldType} {rm : Room} (G : OK g κ own cc nL ret rm) {pc : Nat} {lv : List (Nat × Value)} {rest : List Value} {L : Nat → va_E} {n : Int} {v : Int32} (hd : decode cc pc = .ok (.sipush n, 3)) (hv : (Int16.ofInt n).toInt32 = v) (k : J g κ nL (pc + 3) lv (.int v :: rest) L) : J g κ nL pc lv (rest) L := by
  obtain ⟨p, l, e, R, s, m, args, below, meth, c, cells, slots, Q, D, A⟩ := g
  obtain ⟨hx, hb, hml, hr, hlk, hown, hts, hK, hN, hi, hA1, hA2, hc, hs, hR⟩ := G
  intro H locs ls hP hS hl
  exact lv_sipush hx hb hd hv (k H locs ls hP hS hl)
theorem w_lconst {g : Gm} {κ : ctx} {own : String} {cc : ByteArray} {nL : Nat} {ret : Option FieldType} {rm : Room} (G : OK g κ own cc nL ret rm) {pc : Nat} {lv : List (Nat × Value)} {rest : List Value} {L : Nat → va_E} {n : Fin 2} {v : Int64} (hd : decode cc pc = .ok (.lconst n, 1)) (hv : Int64.ofNat (n : Nat) = v) (k : J g κ nL (pc + 1) lv (.long v :: rest) L) : J g κ nL pc lv (rest) L := by
  obtain ⟨p, l, e, R, s, m, args, below, meth, c, cells, slots, Q, D, A⟩ := g
  obtain ⟨hx, hb, hml, hr, hlk, hown, hts, hK, hN, hi, hA1, hA2, hc, hs, hR⟩ := G
  intro H locs ls hP hS hl
  exact lv_lconst hx hb hd hv (k H locs ls hP hS hl)
theorem w_iload_n {g : Gm} {κ : ctx} {own : String} {cc : ByteArray} {nL : Nat} {ret : Option FieldType} {rm : Room} (G : OK g κ own cc nL ret rm) {pc : Nat} {lv : List (Nat × Value)} {rest : List Value} {L : Nat → va_E} {k0 : Fin 4} {i q : Nat} {x : Int32} (hd : decode cc pc = .ok (.iload_n k0, 1)) (h0 : (k0 : Nat) = i) (hq : lv[q]? = some (i, .int x)) (k : J g κ nL (pc + 1) lv (.int x :: rest) L) : J g κ nL pc lv (rest) L := by
  obtain ⟨p, l, e, R, s, m, args, below, meth, c, cells, slots, Q, D, A⟩ := g
  obtain ⟨hx, hb, hml, hr, hlk, hown, hts, hK, hN, hi, hA1, hA2, hc, hs, hR⟩ := G
  intro H locs ls hP hS hl
  exact lv_iload_n hx hb hd h0 (lv_at hl q hq) (k H locs ls hP hS hl)
theorem w_iload {g : Gm} {κ : ctx} {own : String} {cc : ByteArray} {nL : Nat} {ret : Option FieldType} {rm : Room} (G : OK g κ own cc nL ret rm) {pc : Nat} {lv : List (Nat × Value)} {rest : List Value} {L : Nat → va_E} {i q : Nat} {x : Int32} (hd : decode cc pc = .ok (.iload i, 2)) (hq : lv[q]? = some (i, .int x)) (k : J g κ nL (pc + 2) lv (.int x :: rest) L) : J g κ nL pc lv (rest) L := by
  obtain ⟨p, l, e, R, s, m, args, below, meth, c, cells, slots, Q, D, A⟩ := g
  obtain ⟨hx, hb, hml, hr, hlk, hown, hts, hK, hN, hi, hA1, hA2, hc, hs, hR⟩ := G
  intro H locs ls hP hS hl
  exact lv_iload hx hb hd (lv_at hl q hq) (k H locs ls hP hS hl)
theorem w_istore_n {g : Gm} {κ : ctx} {own : String} {cc : ByteArray} {nL : Nat} {ret : Option FieldType} {rm : Room} (G : OK g κ own cc nL ret rm) {pc : Nat} {lv : List (Nat × Value)} {rest : List Value} {L : Nat → va_E} {k0 : Fin 4} {i : Nat} {x : Int32} {lv' : List (Nat × Value)} (hd : decode cc pc = .ok (.istore_n k0, 1)) (h0 : (k0 : Nat) = i) (hn : i < nL) (hv : (i, Value.int x) :: lv.filter (fun q => !(q.1 == i) && !(q.1 + 1 == i && q.2.category == 2)) = lv') (k : J g κ nL (pc + 1) lv' rest L) : J g κ nL pc lv (.int x :: rest) L := by
  obtain ⟨p, l, e, R, s, m, args, below, meth, c, cells, slots, Q, D, A⟩ := g
  obtain ⟨hx, hb, hml, hr, hlk, hown, hts, hK, hN, hi, hA1, hA2, hc, hs, hR⟩ := G
  intro H locs ls hP hS hl
  exact lv_istore_n hx hb hd h0 hl hn hv (fun ls' hl' => k H locs ls' hP hS hl')
theorem w_istore {g : Gm} {κ : ctx} {own : String} {cc : ByteArray} {nL : Nat} {ret : Option FieldType} {rm : Room} (G : OK g κ own cc nL ret rm) {pc : Nat} {lv : List (Nat × Value)} {rest : List Value} {L : Nat → va_E} {i : Nat} {x : Int32} {lv' : List (Nat × Value)} (hd : decode cc pc = .ok (.istore i, 2)) (hn : i < nL) (hv : (i, Value.int x) :: lv.filter (fun q => !(q.1 == i) && !(q.1 + 1 == i && q.2.category == 2)) = lv') (k : J g κ nL (pc + 2) lv' rest L) : J g κ nL pc lv (.int x :: rest) L := by
  obtain ⟨p, l, e, R, s, m, args, below, meth, c, cells, slots, Q, D, A⟩ := g
  obtain ⟨hx, hb, hml, hr, hlk, hown, hts, hK, hN, hi, hA1, hA2, hc, hs, hR⟩ := G
  intro H locs ls hP hS hl
  exact lv_istore hx hb hd hl hn hv (fun ls' hl' => k H locs ls' hP hS hl')
theorem w_lload_n {g : Gm} {κ : ctx} {own : String} {cc : ByteArray} {nL : Nat} {ret : Option FieldType} {rm : Room} (G : OK g κ own cc nL ret rm) {pc : Nat} {lv : List (Nat × Value)} {rest : List Value} {L : Nat → va_E} {k0 : Fin 4} {i q : Nat} {x : Int64} (hd : decode cc pc = .ok (.lload_n k0, 1)) (h0 : (k0 : Nat) = i) (hq : lv[q]? = some (i, .long x)) (k : J g κ nL (pc + 1) lv (.long x :: rest) L) : J g κ nL pc lv (rest) L := by
  obtain ⟨p, l, e, R, s, m, args, below, meth, c, cells, slots, Q, D, A⟩ := g
  obtain ⟨hx, hb, hml, hr, hlk, hown, hts, hK, hN, hi, hA1, hA2, hc, hs, hR⟩ := G
  intro H locs ls hP hS hl
  exact lv_lload_n hx hb hd h0 (lv_at hl q hq) (k H locs ls hP hS hl)
theorem w_lload {g : Gm} {κ : ctx} {own : String} {cc : ByteArray} {nL : Nat} {ret : Option FieldType} {rm : Room} (G : OK g κ own cc nL ret rm) {pc : Nat} {lv : List (Nat × Value)} {rest : List Value} {L : Nat → va_E} {i q : Nat} {x : Int64} (hd : decode cc pc = .ok (.lload i, 2)) (hq : lv[q]? = some (i, .long x)) (k : J g κ nL (pc + 2) lv (.long x :: rest) L) : J g κ nL pc lv (rest) L := by
  obtain ⟨p, l, e, R, s, m, args, below, meth, c, cells, slots, Q, D, A⟩ := g
  obtain ⟨hx, hb, hml, hr, hlk, hown, hts, hK, hN, hi, hA1, hA2, hc, hs, hR⟩ := G
  intro H locs ls hP hS hl
  exact lv_lload hx hb hd (lv_at hl q hq) (k H locs ls hP hS hl)
theorem w_lstore_n {g : Gm} {κ : ctx} {own : String} {cc : ByteArray} {nL : Nat} {ret : Option FieldType} {rm : Room} (G : OK g κ own cc nL ret rm) {pc : Nat} {lv : List (Nat × Value)} {rest : List Value} {L : Nat → va_E} {k0 : Fin 4} {i : Nat} {x : Int64} {lv' : List (Nat × Value)} (hd : decode cc pc = .ok (.lstore_n k0, 1)) (h0 : (k0 : Nat) = i) (hn : i + 1 < nL) (hv : (i, Value.long x) :: lv.filter (fun q => !(q.1 == i) && (!(q.1 == i + 1) && !(q.1 + 1 == i && q.2.category == 2))) = lv') (k : J g κ nL (pc + 1) lv' rest L) : J g κ nL pc lv (.long x :: rest) L := by
  obtain ⟨p, l, e, R, s, m, args, below, meth, c, cells, slots, Q, D, A⟩ := g
  obtain ⟨hx, hb, hml, hr, hlk, hown, hts, hK, hN, hi, hA1, hA2, hc, hs, hR⟩ := G
  intro H locs ls hP hS hl
  exact lv_lstore_n hx hb hd h0 hl hn hv (fun ls' hl' => k H locs ls' hP hS hl')
theorem w_lstore {g : Gm} {κ : ctx} {own : String} {cc : ByteArray} {nL : Nat} {ret : Option FieldType} {rm : Room} (G : OK g κ own cc nL ret rm) {pc : Nat} {lv : List (Nat × Value)} {rest : List Value} {L : Nat → va_E} {i : Nat} {x : Int64} {lv' : List (Nat × Value)} (hd : decode cc pc = .ok (.lstore i, 2)) (hn : i + 1 < nL) (hv : (i, Value.long x) :: lv.filter (fun q => !(q.1 == i) && (!(q.1 == i + 1) && !(q.1 + 1 == i && q.2.category == 2))) = lv') (k : J g κ nL (pc + 2) lv' rest L) : J g κ nL pc lv (.long x :: rest) L := by
  obtain ⟨p, l, e, R, s, m, args, below, meth, c, cells, slots, Q, D, A⟩ := g
  obtain ⟨hx, hb, hml, hr, hlk, hown, hts, hK, hN, hi, hA1, hA2, hc, hs, hR⟩ := G
  intro H locs ls hP hS hl
  exact lv_lstore hx hb hd hl hn hv (fun ls' hl' => k H locs ls' hP hS hl')
theorem w_aload_n {g : Gm} {κ : ctx} {own : String} {cc : ByteArray} {nL : Nat} {ret : Option FieldType} {rm : Room} (G : OK g κ own cc nL ret rm) {pc : Nat} {lv : List (Nat × Value)} {rest : List Value} {L : Nat → va_E} {k0 : Fin 4} {i q : Nat} {x : Nat} (hd : decode cc pc = .ok (.aload_n k0, 1)) (h0 : (k0 : Nat) = i) (hq : lv[q]? = some (i, .ref x)) (k : J g κ nL (pc + 1) lv (.ref x :: rest) L) : J g κ nL pc lv (rest) L := by
  obtain ⟨p, l, e, R, s, m, args, below, meth, c, cells, slots, Q, D, A⟩ := g
  obtain ⟨hx, hb, hml, hr, hlk, hown, hts, hK, hN, hi, hA1, hA2, hc, hs, hR⟩ := G
  intro H locs ls hP hS hl
  exact lv_aload_n hx hb hd h0 (lv_at hl q hq) (k H locs ls hP hS hl)
theorem w_aload {g : Gm} {κ : ctx} {own : String} {cc : ByteArray} {nL : Nat} {ret : Option FieldType} {rm : Room} (G : OK g κ own cc nL ret rm) {pc : Nat} {lv : List (Nat × Value)} {rest : List Value} {L : Nat → va_E} {i q : Nat} {x : Nat} (hd : decode cc pc = .ok (.aload i, 2)) (hq : lv[q]? = some (i, .ref x)) (k : J g κ nL (pc + 2) lv (.ref x :: rest) L) : J g κ nL pc lv (rest) L := by
  obtain ⟨p, l, e, R, s, m, args, below, meth, c, cells, slots, Q, D, A⟩ := g
  obtain ⟨hx, hb, hml, hr, hlk, hown, hts, hK, hN, hi, hA1, hA2, hc, hs, hR⟩ := G
  intro H locs ls hP hS hl
  exact lv_aload hx hb hd (lv_at hl q hq) (k H locs ls hP hS hl)
theorem w_astore_n {g : Gm} {κ : ctx} {own : String} {cc : ByteArray} {nL : Nat} {ret : Option FieldType} {rm : Room} (G : OK g κ own cc nL ret rm) {pc : Nat} {lv : List (Nat × Value)} {rest : List Value} {L : Nat → va_E} {k0 : Fin 4} {i : Nat} {x : Nat} {lv' : List (Nat × Value)} (hd : decode cc pc = .ok (.astore_n k0, 1)) (h0 : (k0 : Nat) = i) (hn : i < nL) (hv : (i, Value.ref x) :: lv.filter (fun q => !(q.1 == i) && !(q.1 + 1 == i && q.2.category == 2)) = lv') (k : J g κ nL (pc + 1) lv' rest L) : J g κ nL pc lv (.ref x :: rest) L := by
  obtain ⟨p, l, e, R, s, m, args, below, meth, c, cells, slots, Q, D, A⟩ := g
  obtain ⟨hx, hb, hml, hr, hlk, hown, hts, hK, hN, hi, hA1, hA2, hc, hs, hR⟩ := G
  intro H locs ls hP hS hl
  exact lv_astore_n hx hb hd h0 hl hn hv (fun ls' hl' => k H locs ls' hP hS hl')
theorem w_astore {g : Gm} {κ : ctx} {own : String} {cc : ByteArray} {nL : Nat} {ret : Option FieldType} {rm : Room} (G : OK g κ own cc nL ret rm) {pc : Nat} {lv : List (Nat × Value)} {rest : List Value} {L : Nat → va_E} {i : Nat} {x : Nat} {lv' : List (Nat × Value)} (hd : decode cc pc = .ok (.astore i, 2)) (hn : i < nL) (hv : (i, Value.ref x) :: lv.filter (fun q => !(q.1 == i) && !(q.1 + 1 == i && q.2.category == 2)) = lv') (k : J g κ nL (pc + 2) lv' rest L) : J g κ nL pc lv (.ref x :: rest) L := by
  obtain ⟨p, l, e, R, s, m, args, below, meth, c, cells, slots, Q, D, A⟩ := g
  obtain ⟨hx, hb, hml, hr, hlk, hown, hts, hK, hN, hi, hA1, hA2, hc, hs, hR⟩ := G
  intro H locs ls hP hS hl
  exact lv_astore hx hb hd hl hn hv (fun ls' hl' => k H locs ls' hP hS hl')
theorem w_iinc {g : Gm} {κ : ctx} {own : String} {cc : ByteArray} {nL : Nat} {ret : Option FieldType} {rm : Room} (G : OK g κ own cc nL ret rm) {pc : Nat} {lv : List (Nat × Value)} {rest : List Value} {L : Nat → va_E} {i q0 : Nat} {n : Int} {x v : Int32} {lv' : List (Nat × Value)} (hd : decode cc pc = .ok (.iinc i n, 3)) (hq : lv[q0]? = some (i, .int x)) (hv : x + Int32.ofInt n = v) (hn : i < nL) (hl' : (i, Value.int v) :: lv.filter (fun q => !(q.1 == i) && !(q.1 + 1 == i && q.2.category == 2)) = lv') (k : J g κ nL (pc + 3) lv' rest L) : J g κ nL pc lv rest L := by
  obtain ⟨p, l, e, R, s, m, args, below, meth, c, cells, slots, Q, D, A⟩ := g
  obtain ⟨hx, hb, hml, hr, hlk, hown, hts, hK, hN, hi, hA1, hA2, hc, hs, hR⟩ := G
  intro H locs ls hP hS hl
  exact lv_iinc hx hb hd hl hq hv hn hl' (fun ls1 hl1 => k H locs ls1 hP hS hl1)
theorem w_iadd {g : Gm} {κ : ctx} {own : String} {cc : ByteArray} {nL : Nat} {ret : Option FieldType} {rm : Room} (G : OK g κ own cc nL ret rm) {pc : Nat} {lv : List (Nat × Value)} {rest : List Value} {L : Nat → va_E} {x y : Int32} (hd : decode cc pc = .ok (.iadd, 1)) (k : J g κ nL (pc + 1) lv (.int (x + y) :: rest) L) : J g κ nL pc lv (.int y :: .int x :: rest) L := by
  obtain ⟨p, l, e, R, s, m, args, below, meth, c, cells, slots, Q, D, A⟩ := g
  obtain ⟨hx, hb, hml, hr, hlk, hown, hts, hK, hN, hi, hA1, hA2, hc, hs, hR⟩ := G
  intro H locs ls hP hS hl
  exact lv_iadd hx hb hd (k H locs ls hP hS hl)
theorem w_isub {g : Gm} {κ : ctx} {own : String} {cc : ByteArray} {nL : Nat} {ret : Option FieldType} {rm : Room} (G : OK g κ own cc nL ret rm) {pc : Nat} {lv : List (Nat × Value)} {rest : List Value} {L : Nat → va_E} {x y : Int32} (hd : decode cc pc = .ok (.isub, 1)) (k : J g κ nL (pc + 1) lv (.int (x - y) :: rest) L) : J g κ nL pc lv (.int y :: .int x :: rest) L := by
  obtain ⟨p, l, e, R, s, m, args, below, meth, c, cells, slots, Q, D, A⟩ := g
  obtain ⟨hx, hb, hml, hr, hlk, hown, hts, hK, hN, hi, hA1, hA2, hc, hs, hR⟩ := G
  intro H locs ls hP hS hl
  exact lv_isub hx hb hd (k H locs ls hP hS hl)
theorem w_imul {g : Gm} {κ : ctx} {own : String} {cc : ByteArray} {nL : Nat} {ret : Option FieldType} {rm : Room} (G : OK g κ own cc nL ret rm) {pc : Nat} {lv : List (Nat × Value)} {rest : List Value} {L : Nat → va_E} {x y : Int32} (hd : decode cc pc = .ok (.imul, 1)) (k : J g κ nL (pc + 1) lv (.int (x * y) :: rest) L) : J g κ nL pc lv (.int y :: .int x :: rest) L := by
  obtain ⟨p, l, e, R, s, m, args, below, meth, c, cells, slots, Q, D, A⟩ := g
  obtain ⟨hx, hb, hml, hr, hlk, hown, hts, hK, hN, hi, hA1, hA2, hc, hs, hR⟩ := G
  intro H locs ls hP hS hl
  exact lv_imul hx hb hd (k H locs ls hP hS hl)
theorem w_iand {g : Gm} {κ : ctx} {own : String} {cc : ByteArray} {nL : Nat} {ret : Option FieldType} {rm : Room} (G : OK g κ own cc nL ret rm) {pc : Nat} {lv : List (Nat × Value)} {rest : List Value} {L : Nat → va_E} {x y : Int32} (hd : decode cc pc = .ok (.iand, 1)) (k : J g κ nL (pc + 1) lv (.int (x &&& y) :: rest) L) : J g κ nL pc lv (.int y :: .int x :: rest) L := by
  obtain ⟨p, l, e, R, s, m, args, below, meth, c, cells, slots, Q, D, A⟩ := g
  obtain ⟨hx, hb, hml, hr, hlk, hown, hts, hK, hN, hi, hA1, hA2, hc, hs, hR⟩ := G
  intro H locs ls hP hS hl
  exact lv_iand hx hb hd (k H locs ls hP hS hl)
theorem w_ladd {g : Gm} {κ : ctx} {own : String} {cc : ByteArray} {nL : Nat} {ret : Option FieldType} {rm : Room} (G : OK g κ own cc nL ret rm) {pc : Nat} {lv : List (Nat × Value)} {rest : List Value} {L : Nat → va_E} {x y : Int64} (hd : decode cc pc = .ok (.ladd, 1)) (k : J g κ nL (pc + 1) lv (.long (x + y) :: rest) L) : J g κ nL pc lv (.long y :: .long x :: rest) L := by
  obtain ⟨p, l, e, R, s, m, args, below, meth, c, cells, slots, Q, D, A⟩ := g
  obtain ⟨hx, hb, hml, hr, hlk, hown, hts, hK, hN, hi, hA1, hA2, hc, hs, hR⟩ := G
  intro H locs ls hP hS hl
  exact lv_ladd hx hb hd (k H locs ls hP hS hl)
theorem w_lsub {g : Gm} {κ : ctx} {own : String} {cc : ByteArray} {nL : Nat} {ret : Option FieldType} {rm : Room} (G : OK g κ own cc nL ret rm) {pc : Nat} {lv : List (Nat × Value)} {rest : List Value} {L : Nat → va_E} {x y : Int64} (hd : decode cc pc = .ok (.lsub, 1)) (k : J g κ nL (pc + 1) lv (.long (x - y) :: rest) L) : J g κ nL pc lv (.long y :: .long x :: rest) L := by
  obtain ⟨p, l, e, R, s, m, args, below, meth, c, cells, slots, Q, D, A⟩ := g
  obtain ⟨hx, hb, hml, hr, hlk, hown, hts, hK, hN, hi, hA1, hA2, hc, hs, hR⟩ := G
  intro H locs ls hP hS hl
  exact lv_lsub hx hb hd (k H locs ls hP hS hl)
theorem w_lmul {g : Gm} {κ : ctx} {own : String} {cc : ByteArray} {nL : Nat} {ret : Option FieldType} {rm : Room} (G : OK g κ own cc nL ret rm) {pc : Nat} {lv : List (Nat × Value)} {rest : List Value} {L : Nat → va_E} {x y : Int64} (hd : decode cc pc = .ok (.lmul, 1)) (k : J g κ nL (pc + 1) lv (.long (x * y) :: rest) L) : J g κ nL pc lv (.long y :: .long x :: rest) L := by
  obtain ⟨p, l, e, R, s, m, args, below, meth, c, cells, slots, Q, D, A⟩ := g
  obtain ⟨hx, hb, hml, hr, hlk, hown, hts, hK, hN, hi, hA1, hA2, hc, hs, hR⟩ := G
  intro H locs ls hP hS hl
  exact lv_lmul hx hb hd (k H locs ls hP hS hl)
theorem w_lxor {g : Gm} {κ : ctx} {own : String} {cc : ByteArray} {nL : Nat} {ret : Option FieldType} {rm : Room} (G : OK g κ own cc nL ret rm) {pc : Nat} {lv : List (Nat × Value)} {rest : List Value} {L : Nat → va_E} {x y : Int64} (hd : decode cc pc = .ok (.lxor, 1)) (k : J g κ nL (pc + 1) lv (.long (x ^^^ y) :: rest) L) : J g κ nL pc lv (.long y :: .long x :: rest) L := by
  obtain ⟨p, l, e, R, s, m, args, below, meth, c, cells, slots, Q, D, A⟩ := g
  obtain ⟨hx, hb, hml, hr, hlk, hown, hts, hK, hN, hi, hA1, hA2, hc, hs, hR⟩ := G
  intro H locs ls hP hS hl
  exact lv_lxor hx hb hd (k H locs ls hP hS hl)
theorem w_idiv {g : Gm} {κ : ctx} {own : String} {cc : ByteArray} {nL : Nat} {ret : Option FieldType} {rm : Room} (G : OK g κ own cc nL ret rm) {pc : Nat} {lv : List (Nat × Value)} {rest : List Value} {L : Nat → va_E} {x y : Int32} (hd : decode cc pc = .ok (.idiv, 1)) (hne : ¬ y = 0) (k : J g κ nL (pc + 1) lv (.int (x / y) :: rest) L) : J g κ nL pc lv (.int y :: .int x :: rest) L := by
  obtain ⟨p, l, e, R, s, m, args, below, meth, c, cells, slots, Q, D, A⟩ := g
  obtain ⟨hx, hb, hml, hr, hlk, hown, hts, hK, hN, hi, hA1, hA2, hc, hs, hR⟩ := G
  intro H locs ls hP hS hl
  exact lv_idiv hx hb hd hne (k H locs ls hP hS hl)
theorem w_irem {g : Gm} {κ : ctx} {own : String} {cc : ByteArray} {nL : Nat} {ret : Option FieldType} {rm : Room} (G : OK g κ own cc nL ret rm) {pc : Nat} {lv : List (Nat × Value)} {rest : List Value} {L : Nat → va_E} {x y : Int32} (hd : decode cc pc = .ok (.irem, 1)) (hne : ¬ y = 0) (k : J g κ nL (pc + 1) lv (.int (x - x / y * y) :: rest) L) : J g κ nL pc lv (.int y :: .int x :: rest) L := by
  obtain ⟨p, l, e, R, s, m, args, below, meth, c, cells, slots, Q, D, A⟩ := g
  obtain ⟨hx, hb, hml, hr, hlk, hown, hts, hK, hN, hi, hA1, hA2, hc, hs, hR⟩ := G
  intro H locs ls hP hS hl
  exact lv_irem hx hb hd hne (k H locs ls hP hS hl)
theorem w_ldiv {g : Gm} {κ : ctx} {own : String} {cc : ByteArray} {nL : Nat} {ret : Option FieldType} {rm : Room} (G : OK g κ own cc nL ret rm) {pc : Nat} {lv : List (Nat × Value)} {rest : List Value} {L : Nat → va_E} {x y : Int64} (hd : decode cc pc = .ok (.ldiv, 1)) (hne : ¬ y = 0) (k : J g κ nL (pc + 1) lv (.long (x / y) :: rest) L) : J g κ nL pc lv (.long y :: .long x :: rest) L := by
  obtain ⟨p, l, e, R, s, m, args, below, meth, c, cells, slots, Q, D, A⟩ := g
  obtain ⟨hx, hb, hml, hr, hlk, hown, hts, hK, hN, hi, hA1, hA2, hc, hs, hR⟩ := G
  intro H locs ls hP hS hl
  exact lv_ldiv hx hb hd hne (k H locs ls hP hS hl)
theorem w_lrem {g : Gm} {κ : ctx} {own : String} {cc : ByteArray} {nL : Nat} {ret : Option FieldType} {rm : Room} (G : OK g κ own cc nL ret rm) {pc : Nat} {lv : List (Nat × Value)} {rest : List Value} {L : Nat → va_E} {x y : Int64} (hd : decode cc pc = .ok (.lrem, 1)) (hne : ¬ y = 0) (k : J g κ nL (pc + 1) lv (.long (x - x / y * y) :: rest) L) : J g κ nL pc lv (.long y :: .long x :: rest) L := by
  obtain ⟨p, l, e, R, s, m, args, below, meth, c, cells, slots, Q, D, A⟩ := g
  obtain ⟨hx, hb, hml, hr, hlk, hown, hts, hK, hN, hi, hA1, hA2, hc, hs, hR⟩ := G
  intro H locs ls hP hS hl
  exact lv_lrem hx hb hd hne (k H locs ls hP hS hl)
theorem w_ineg {g : Gm} {κ : ctx} {own : String} {cc : ByteArray} {nL : Nat} {ret : Option FieldType} {rm : Room} (G : OK g κ own cc nL ret rm) {pc : Nat} {lv : List (Nat × Value)} {rest : List Value} {L : Nat → va_E} {x : Int32} (hd : decode cc pc = .ok (.ineg, 1)) (k : J g κ nL (pc + 1) lv (.int (-x) :: rest) L) : J g κ nL pc lv (.int x :: rest) L := by
  obtain ⟨p, l, e, R, s, m, args, below, meth, c, cells, slots, Q, D, A⟩ := g
  obtain ⟨hx, hb, hml, hr, hlk, hown, hts, hK, hN, hi, hA1, hA2, hc, hs, hR⟩ := G
  intro H locs ls hP hS hl
  exact lv_ineg hx hb hd (k H locs ls hP hS hl)
theorem w_lneg {g : Gm} {κ : ctx} {own : String} {cc : ByteArray} {nL : Nat} {ret : Option FieldType} {rm : Room} (G : OK g κ own cc nL ret rm) {pc : Nat} {lv : List (Nat × Value)} {rest : List Value} {L : Nat → va_E} {x : Int64} (hd : decode cc pc = .ok (.lneg, 1)) (k : J g κ nL (pc + 1) lv (.long (-x) :: rest) L) : J g κ nL pc lv (.long x :: rest) L := by
  obtain ⟨p, l, e, R, s, m, args, below, meth, c, cells, slots, Q, D, A⟩ := g
  obtain ⟨hx, hb, hml, hr, hlk, hown, hts, hK, hN, hi, hA1, hA2, hc, hs, hR⟩ := G
  intro H locs ls hP hS hl
  exact lv_lneg hx hb hd (k H locs ls hP hS hl)
theorem w_i2l {g : Gm} {κ : ctx} {own : String} {cc : ByteArray} {nL : Nat} {ret : Option FieldType} {rm : Room} (G : OK g κ own cc nL ret rm) {pc : Nat} {lv : List (Nat × Value)} {rest : List Value} {L : Nat → va_E} {x : Int32} (hd : decode cc pc = .ok (.i2l, 1)) (k : J g κ nL (pc + 1) lv (.long x.toInt64 :: rest) L) : J g κ nL pc lv (.int x :: rest) L := by
  obtain ⟨p, l, e, R, s, m, args, below, meth, c, cells, slots, Q, D, A⟩ := g
  obtain ⟨hx, hb, hml, hr, hlk, hown, hts, hK, hN, hi, hA1, hA2, hc, hs, hR⟩ := G
  intro H locs ls hP hS hl
  exact lv_i2l hx hb hd rfl (k H locs ls hP hS hl)
theorem w_l2i {g : Gm} {κ : ctx} {own : String} {cc : ByteArray} {nL : Nat} {ret : Option FieldType} {rm : Room} (G : OK g κ own cc nL ret rm) {pc : Nat} {lv : List (Nat × Value)} {rest : List Value} {L : Nat → va_E} {x : Int64} (hd : decode cc pc = .ok (.l2i, 1)) (k : J g κ nL (pc + 1) lv (.int x.toInt32 :: rest) L) : J g κ nL pc lv (.long x :: rest) L := by
  obtain ⟨p, l, e, R, s, m, args, below, meth, c, cells, slots, Q, D, A⟩ := g
  obtain ⟨hx, hb, hml, hr, hlk, hown, hts, hK, hN, hi, hA1, hA2, hc, hs, hR⟩ := G
  intro H locs ls hP hS hl
  exact lv_l2i hx hb hd rfl (k H locs ls hP hS hl)
theorem w_dup {g : Gm} {κ : ctx} {own : String} {cc : ByteArray} {nL : Nat} {ret : Option FieldType} {rm : Room} (G : OK g κ own cc nL ret rm) {pc : Nat} {lv : List (Nat × Value)} {rest : List Value} {L : Nat → va_E} {v : Value} (hd : decode cc pc = .ok (.dup, 1)) (hc1 : v.category = 1) (k : J g κ nL (pc + 1) lv (v :: v :: rest) L) : J g κ nL pc lv (v :: rest) L := by
  obtain ⟨p, l, e, R, s, m, args, below, meth, c, cells, slots, Q, D, A⟩ := g
  obtain ⟨hx, hb, hml, hr, hlk, hown, hts, hK, hN, hi, hA1, hA2, hc, hs, hR⟩ := G
  intro H locs ls hP hS hl
  exact lv_dup hx hb hd hc1 (k H locs ls hP hS hl)
theorem w_dup2_2 {g : Gm} {κ : ctx} {own : String} {cc : ByteArray} {nL : Nat} {ret : Option FieldType} {rm : Room} (G : OK g κ own cc nL ret rm) {pc : Nat} {lv : List (Nat × Value)} {rest : List Value} {L : Nat → va_E} {v : Value} (hd : decode cc pc = .ok (.dup2, 1)) (hc1 : v.category = 2) (k : J g κ nL (pc + 1) lv (v :: v :: rest) L) : J g κ nL pc lv (v :: rest) L := by
  obtain ⟨p, l, e, R, s, m, args, below, meth, c, cells, slots, Q, D, A⟩ := g
  obtain ⟨hx, hb, hml, hr, hlk, hown, hts, hK, hN, hi, hA1, hA2, hc, hs, hR⟩ := G
  intro H locs ls hP hS hl
  exact lv_dup2_2 hx hb hd hc1 (k H locs ls hP hS hl)
theorem w_dup2_11 {g : Gm} {κ : ctx} {own : String} {cc : ByteArray} {nL : Nat} {ret : Option FieldType} {rm : Room} (G : OK g κ own cc nL ret rm) {pc : Nat} {lv : List (Nat × Value)} {rest : List Value} {L : Nat → va_E} {v w : Value} (hd : decode cc pc = .ok (.dup2, 1)) (hc1 : v.category = 1) (hc2 : w.category = 1) (k : J g κ nL (pc + 1) lv (v :: w :: v :: w :: rest) L) : J g κ nL pc lv (v :: w :: rest) L := by
  obtain ⟨p, l, e, R, s, m, args, below, meth, c, cells, slots, Q, D, A⟩ := g
  obtain ⟨hx, hb, hml, hr, hlk, hown, hts, hK, hN, hi, hA1, hA2, hc, hs, hR⟩ := G
  intro H locs ls hP hS hl
  exact lv_dup2_11 hx hb hd hc1 hc2 (k H locs ls hP hS hl)
theorem w_goto {g : Gm} {κ : ctx} {own : String} {cc : ByteArray} {nL : Nat} {ret : Option FieldType} {rm : Room} (G : OK g κ own cc nL ret rm) {pc : Nat} {lv : List (Nat × Value)} {rest : List Value} {L : Nat → va_E} {off : Int} {tgt : Nat} (hd : decode cc pc = .ok (.goto off, 3)) (ht : (pc : Int) + off = (tgt : Int)) (k : J g κ nL tgt lv rest L) : J g κ nL pc lv rest L := by
  obtain ⟨p, l, e, R, s, m, args, below, meth, c, cells, slots, Q, D, A⟩ := g
  obtain ⟨hx, hb, hml, hr, hlk, hown, hts, hK, hN, hi, hA1, hA2, hc, hs, hR⟩ := G
  intro H locs ls hP hS hl
  exact lv_goto hx hb hd ht (k H locs ls hP hS hl)
theorem w_if_eq {g : Gm} {κ : ctx} {own : String} {cc : ByteArray} {nL : Nat} {ret : Option FieldType} {rm : Room} (G : OK g κ own cc nL ret rm) {pc : Nat} {lv : List (Nat × Value)} {rest : List Value} {L : Nat → va_E} {x : Int32} {off : Int} {tgt : Nat} (hd : decode cc pc = .ok (.ifCond .eq off, 3)) (ht : (pc : Int) + off = (tgt : Int)) (kt : x = 0 → J g κ nL tgt lv rest L) (kf : ¬ (x = 0) → J g κ nL (pc + 3) lv rest L) : J g κ nL pc lv (.int x :: rest) L := by
  obtain ⟨p, l, e, R, s, m, args, below, meth, c, cells, slots, Q, D, A⟩ := g
  obtain ⟨hx, hb, hml, hr, hlk, hown, hts, hK, hN, hi, hA1, hA2, hc, hs, hR⟩ := G
  intro H locs ls hP hS hl
  exact lv_if_eq hx hb hd ht (fun q => kt q H locs ls hP hS hl) (fun q => kf q H locs ls hP hS hl)
theorem w_if_lt {g : Gm} {κ : ctx} {own : String} {cc : ByteArray} {nL : Nat} {ret : Option FieldType} {rm : Room} (G : OK g κ own cc nL ret rm) {pc : Nat} {lv : List (Nat × Value)} {rest : List Value} {L : Nat → va_E} {x : Int32} {off : Int} {tgt : Nat} (hd : decode cc pc = .ok (.ifCond .lt off, 3)) (ht : (pc : Int) + off = (tgt : Int)) (kt : x < 0 → J g κ nL tgt lv rest L) (kf : ¬ (x < 0) → J g κ nL (pc + 3) lv rest L) : J g κ nL pc lv (.int x :: rest) L := by
  obtain ⟨p, l, e, R, s, m, args, below, meth, c, cells, slots, Q, D, A⟩ := g
  obtain ⟨hx, hb, hml, hr, hlk, hown, hts, hK, hN, hi, hA1, hA2, hc, hs, hR⟩ := G
  intro H locs ls hP hS hl
  exact lv_if_lt hx hb hd ht (fun q => kt q H locs ls hP hS hl) (fun q => kf q H locs ls hP hS hl)
theorem w_if_ge {g : Gm} {κ : ctx} {own : String} {cc : ByteArray} {nL : Nat} {ret : Option FieldType} {rm : Room} (G : OK g κ own cc nL ret rm) {pc : Nat} {lv : List (Nat × Value)} {rest : List Value} {L : Nat → va_E} {x : Int32} {off : Int} {tgt : Nat} (hd : decode cc pc = .ok (.ifCond .ge off, 3)) (ht : (pc : Int) + off = (tgt : Int)) (kt : 0 ≤ x → J g κ nL tgt lv rest L) (kf : ¬ (0 ≤ x) → J g κ nL (pc + 3) lv rest L) : J g κ nL pc lv (.int x :: rest) L := by
  obtain ⟨p, l, e, R, s, m, args, below, meth, c, cells, slots, Q, D, A⟩ := g
  obtain ⟨hx, hb, hml, hr, hlk, hown, hts, hK, hN, hi, hA1, hA2, hc, hs, hR⟩ := G
  intro H locs ls hP hS hl
  exact lv_if_ge hx hb hd ht (fun q => kt q H locs ls hP hS hl) (fun q => kf q H locs ls hP hS hl)
theorem w_if_gt {g : Gm} {κ : ctx} {own : String} {cc : ByteArray} {nL : Nat} {ret : Option FieldType} {rm : Room} (G : OK g κ own cc nL ret rm) {pc : Nat} {lv : List (Nat × Value)} {rest : List Value} {L : Nat → va_E} {x : Int32} {off : Int} {tgt : Nat} (hd : decode cc pc = .ok (.ifCond .gt off, 3)) (ht : (pc : Int) + off = (tgt : Int)) (kt : 0 < x → J g κ nL tgt lv rest L) (kf : ¬ (0 < x) → J g κ nL (pc + 3) lv rest L) : J g κ nL pc lv (.int x :: rest) L := by
  obtain ⟨p, l, e, R, s, m, args, below, meth, c, cells, slots, Q, D, A⟩ := g
  obtain ⟨hx, hb, hml, hr, hlk, hown, hts, hK, hN, hi, hA1, hA2, hc, hs, hR⟩ := G
  intro H locs ls hP hS hl
  exact lv_if_gt hx hb hd ht (fun q => kt q H locs ls hP hS hl) (fun q => kf q H locs ls hP hS hl)
theorem w_if_le {g : Gm} {κ : ctx} {own : String} {cc : ByteArray} {nL : Nat} {ret : Option FieldType} {rm : Room} (G : OK g κ own cc nL ret rm) {pc : Nat} {lv : List (Nat × Value)} {rest : List Value} {L : Nat → va_E} {x : Int32} {off : Int} {tgt : Nat} (hd : decode cc pc = .ok (.ifCond .le off, 3)) (ht : (pc : Int) + off = (tgt : Int)) (kt : x ≤ 0 → J g κ nL tgt lv rest L) (kf : ¬ (x ≤ 0) → J g κ nL (pc + 3) lv rest L) : J g κ nL pc lv (.int x :: rest) L := by
  obtain ⟨p, l, e, R, s, m, args, below, meth, c, cells, slots, Q, D, A⟩ := g
  obtain ⟨hx, hb, hml, hr, hlk, hown, hts, hK, hN, hi, hA1, hA2, hc, hs, hR⟩ := G
  intro H locs ls hP hS hl
  exact lv_if_le hx hb hd ht (fun q => kt q H locs ls hP hS hl) (fun q => kf q H locs ls hP hS hl)
theorem w_if_ne {g : Gm} {κ : ctx} {own : String} {cc : ByteArray} {nL : Nat} {ret : Option FieldType} {rm : Room} (G : OK g κ own cc nL ret rm) {pc : Nat} {lv : List (Nat × Value)} {rest : List Value} {L : Nat → va_E} {x : Int32} {off : Int} {tgt : Nat} (hd : decode cc pc = .ok (.ifCond .ne off, 3)) (ht : (pc : Int) + off = (tgt : Int)) (kt : x = 0 → J g κ nL (pc + 3) lv rest L) (kf : ¬ (x = 0) → J g κ nL tgt lv rest L) : J g κ nL pc lv (.int x :: rest) L := by
  obtain ⟨p, l, e, R, s, m, args, below, meth, c, cells, slots, Q, D, A⟩ := g
  obtain ⟨hx, hb, hml, hr, hlk, hown, hts, hK, hN, hi, hA1, hA2, hc, hs, hR⟩ := G
  intro H locs ls hP hS hl
  exact lv_if_ne hx hb hd ht (fun q => kf q H locs ls hP hS hl) (fun q => kt q H locs ls hP hS hl)
theorem w_icmp_eq {g : Gm} {κ : ctx} {own : String} {cc : ByteArray} {nL : Nat} {ret : Option FieldType} {rm : Room} (G : OK g κ own cc nL ret rm) {pc : Nat} {lv : List (Nat × Value)} {rest : List Value} {L : Nat → va_E} {x y : Int32} {off : Int} {tgt : Nat} (hd : decode cc pc = .ok (.if_icmp .eq off, 3)) (ht : (pc : Int) + off = (tgt : Int)) (kt : x = y → J g κ nL tgt lv rest L) (kf : ¬ (x = y) → J g κ nL (pc + 3) lv rest L) : J g κ nL pc lv (.int y :: .int x :: rest) L := by
  obtain ⟨p, l, e, R, s, m, args, below, meth, c, cells, slots, Q, D, A⟩ := g
  obtain ⟨hx, hb, hml, hr, hlk, hown, hts, hK, hN, hi, hA1, hA2, hc, hs, hR⟩ := G
  intro H locs ls hP hS hl
  exact lv_icmp_eq hx hb hd ht (fun q => kt q H locs ls hP hS hl) (fun q => kf q H locs ls hP hS hl)
theorem w_icmp_lt {g : Gm} {κ : ctx} {own : String} {cc : ByteArray} {nL : Nat} {ret : Option FieldType} {rm : Room} (G : OK g κ own cc nL ret rm) {pc : Nat} {lv : List (Nat × Value)} {rest : List Value} {L : Nat → va_E} {x y : Int32} {off : Int} {tgt : Nat} (hd : decode cc pc = .ok (.if_icmp .lt off, 3)) (ht : (pc : Int) + off = (tgt : Int)) (kt : x < y → J g κ nL tgt lv rest L) (kf : ¬ (x < y) → J g κ nL (pc + 3) lv rest L) : J g κ nL pc lv (.int y :: .int x :: rest) L := by
  obtain ⟨p, l, e, R, s, m, args, below, meth, c, cells, slots, Q, D, A⟩ := g
  obtain ⟨hx, hb, hml, hr, hlk, hown, hts, hK, hN, hi, hA1, hA2, hc, hs, hR⟩ := G
  intro H locs ls hP hS hl
  exact lv_icmp_lt hx hb hd ht (fun q => kt q H locs ls hP hS hl) (fun q => kf q H locs ls hP hS hl)
theorem w_icmp_ge {g : Gm} {κ : ctx} {own : String} {cc : ByteArray} {nL : Nat} {ret : Option FieldType} {rm : Room} (G : OK g κ own cc nL ret rm) {pc : Nat} {lv : List (Nat × Value)} {rest : List Value} {L : Nat → va_E} {x y : Int32} {off : Int} {tgt : Nat} (hd : decode cc pc = .ok (.if_icmp .ge off, 3)) (ht : (pc : Int) + off = (tgt : Int)) (kt : y ≤ x → J g κ nL tgt lv rest L) (kf : ¬ (y ≤ x) → J g κ nL (pc + 3) lv rest L) : J g κ nL pc lv (.int y :: .int x :: rest) L := by
  obtain ⟨p, l, e, R, s, m, args, below, meth, c, cells, slots, Q, D, A⟩ := g
  obtain ⟨hx, hb, hml, hr, hlk, hown, hts, hK, hN, hi, hA1, hA2, hc, hs, hR⟩ := G
  intro H locs ls hP hS hl
  exact lv_icmp_ge hx hb hd ht (fun q => kt q H locs ls hP hS hl) (fun q => kf q H locs ls hP hS hl)
theorem w_icmp_gt {g : Gm} {κ : ctx} {own : String} {cc : ByteArray} {nL : Nat} {ret : Option FieldType} {rm : Room} (G : OK g κ own cc nL ret rm) {pc : Nat} {lv : List (Nat × Value)} {rest : List Value} {L : Nat → va_E} {x y : Int32} {off : Int} {tgt : Nat} (hd : decode cc pc = .ok (.if_icmp .gt off, 3)) (ht : (pc : Int) + off = (tgt : Int)) (kt : y < x → J g κ nL tgt lv rest L) (kf : ¬ (y < x) → J g κ nL (pc + 3) lv rest L) : J g κ nL pc lv (.int y :: .int x :: rest) L := by
  obtain ⟨p, l, e, R, s, m, args, below, meth, c, cells, slots, Q, D, A⟩ := g
  obtain ⟨hx, hb, hml, hr, hlk, hown, hts, hK, hN, hi, hA1, hA2, hc, hs, hR⟩ := G
  intro H locs ls hP hS hl
  exact lv_icmp_gt hx hb hd ht (fun q => kt q H locs ls hP hS hl) (fun q => kf q H locs ls hP hS hl)
theorem w_icmp_le {g : Gm} {κ : ctx} {own : String} {cc : ByteArray} {nL : Nat} {ret : Option FieldType} {rm : Room} (G : OK g κ own cc nL ret rm) {pc : Nat} {lv : List (Nat × Value)} {rest : List Value} {L : Nat → va_E} {x y : Int32} {off : Int} {tgt : Nat} (hd : decode cc pc = .ok (.if_icmp .le off, 3)) (ht : (pc : Int) + off = (tgt : Int)) (kt : x ≤ y → J g κ nL tgt lv rest L) (kf : ¬ (x ≤ y) → J g κ nL (pc + 3) lv rest L) : J g κ nL pc lv (.int y :: .int x :: rest) L := by
  obtain ⟨p, l, e, R, s, m, args, below, meth, c, cells, slots, Q, D, A⟩ := g
  obtain ⟨hx, hb, hml, hr, hlk, hown, hts, hK, hN, hi, hA1, hA2, hc, hs, hR⟩ := G
  intro H locs ls hP hS hl
  exact lv_icmp_le hx hb hd ht (fun q => kt q H locs ls hP hS hl) (fun q => kf q H locs ls hP hS hl)
theorem w_icmp_ne {g : Gm} {κ : ctx} {own : String} {cc : ByteArray} {nL : Nat} {ret : Option FieldType} {rm : Room} (G : OK g κ own cc nL ret rm) {pc : Nat} {lv : List (Nat × Value)} {rest : List Value} {L : Nat → va_E} {x y : Int32} {off : Int} {tgt : Nat} (hd : decode cc pc = .ok (.if_icmp .ne off, 3)) (ht : (pc : Int) + off = (tgt : Int)) (kt : x = y → J g κ nL (pc + 3) lv rest L) (kf : ¬ (x = y) → J g κ nL tgt lv rest L) : J g κ nL pc lv (.int y :: .int x :: rest) L := by
  obtain ⟨p, l, e, R, s, m, args, below, meth, c, cells, slots, Q, D, A⟩ := g
  obtain ⟨hx, hb, hml, hr, hlk, hown, hts, hK, hN, hi, hA1, hA2, hc, hs, hR⟩ := G
  intro H locs ls hP hS hl
  exact lv_icmp_ne hx hb hd ht (fun q => kf q H locs ls hP hS hl) (fun q => kt q H locs ls hP hS hl)
theorem w_lc_eq {g : Gm} {κ : ctx} {own : String} {cc : ByteArray} {nL : Nat} {ret : Option FieldType} {rm : Room} (G : OK g κ own cc nL ret rm) {pc : Nat} {lv : List (Nat × Value)} {rest : List Value} {L : Nat → va_E} {x y : Int64} {off : Int} {tgt : Nat} (hd : decode cc pc = .ok (.lcmp, 1)) (hd2 : decode cc (pc + 1) = .ok (.ifCond .eq off, 3)) (ht : ((pc + 1 : Nat) : Int) + off = (tgt : Int)) (kt : x = y → J g κ nL tgt lv rest L) (kf : ¬ (x = y) → J g κ nL (pc + 4) lv rest L) : J g κ nL pc lv (.long y :: .long x :: rest) L := by
  obtain ⟨p, l, e, R, s, m, args, below, meth, c, cells, slots, Q, D, A⟩ := g
  obtain ⟨hx, hb, hml, hr, hlk, hown, hts, hK, hN, hi, hA1, hA2, hc, hs, hR⟩ := G
  intro H locs ls hP hS hl
  refine W.lcmp hx hb hd ?_
  exact lv_if_eq hx hb hd2 ht (fun q => kt ((lg_cmp_eq x y).mp q) H locs ls hP hS hl) (fun q => kf (fun z => q ((lg_cmp_eq x y).mpr z)) H locs ls hP hS hl)
theorem w_lc_lt {g : Gm} {κ : ctx} {own : String} {cc : ByteArray} {nL : Nat} {ret : Option FieldType} {rm : Room} (G : OK g κ own cc nL ret rm) {pc : Nat} {lv : List (Nat × Value)} {rest : List Value} {L : Nat → va_E} {x y : Int64} {off : Int} {tgt : Nat} (hd : decode cc pc = .ok (.lcmp, 1)) (hd2 : decode cc (pc + 1) = .ok (.ifCond .lt off, 3)) (ht : ((pc + 1 : Nat) : Int) + off = (tgt : Int)) (kt : x < y → J g κ nL tgt lv rest L) (kf : ¬ (x < y) → J g κ nL (pc + 4) lv rest L) : J g κ nL pc lv (.long y :: .long x :: rest) L := by
  obtain ⟨p, l, e, R, s, m, args, below, meth, c, cells, slots, Q, D, A⟩ := g
  obtain ⟨hx, hb, hml, hr, hlk, hown, hts, hK, hN, hi, hA1, hA2, hc, hs, hR⟩ := G
  intro H locs ls hP hS hl
  refine W.lcmp hx hb hd ?_
  exact lv_if_lt hx hb hd2 ht (fun q => kt ((lg_cmp_lt x y).mp q) H locs ls hP hS hl) (fun q => kf (fun z => q ((lg_cmp_lt x y).mpr z)) H locs ls hP hS hl)
theorem w_lc_ge {g : Gm} {κ : ctx} {own : String} {cc : ByteArray} {nL : Nat} {ret : Option FieldType} {rm : Room} (G : OK g κ own cc nL ret rm) {pc : Nat} {lv : List (Nat × Value)} {rest : List Value} {L : Nat → va_E} {x y : Int64} {off : Int} {tgt : Nat} (hd : decode cc pc = .ok (.lcmp, 1)) (hd2 : decode cc (pc + 1) = .ok (.ifCond .ge off, 3)) (ht : ((pc + 1 : Nat) : Int) + off = (tgt : Int)) (kt : y ≤ x → J g κ nL tgt lv rest L) (kf : ¬ (y ≤ x) → J g κ nL (pc + 4) lv rest L) : J g κ nL pc lv (.long y :: .long x :: rest) L := by
  obtain ⟨p, l, e, R, s, m, args, below, meth, c, cells, slots, Q, D, A⟩ := g
  obtain ⟨hx, hb, hml, hr, hlk, hown, hts, hK, hN, hi, hA1, hA2, hc, hs, hR⟩ := G
  intro H locs ls hP hS hl
  refine W.lcmp hx hb hd ?_
  exact lv_if_ge hx hb hd2 ht (fun q => kt ((lg_cmp_ge x y).mp q) H locs ls hP hS hl) (fun q => kf (fun z => q ((lg_cmp_ge x y).mpr z)) H locs ls hP hS hl)
theorem w_lc_gt {g : Gm} {κ : ctx} {own : String} {cc : ByteArray} {nL : Nat} {ret : Option FieldType} {rm : Room} (G : OK g κ own cc nL ret rm) {pc : Nat} {lv : List (Nat × Value)} {rest : List Value} {L : Nat → va_E} {x y : Int64} {off : Int} {tgt : Nat} (hd : decode cc pc = .ok (.lcmp, 1)) (hd2 : decode cc (pc + 1) = .ok (.ifCond .gt off, 3)) (ht : ((pc + 1 : Nat) : Int) + off = (tgt : Int)) (kt : y < x → J g κ nL tgt lv rest L) (kf : ¬ (y < x) → J g κ nL (pc + 4) lv rest L) : J g κ nL pc lv (.long y :: .long x :: rest) L := by
  obtain ⟨p, l, e, R, s, m, args, below, meth, c, cells, slots, Q, D, A⟩ := g
  obtain ⟨hx, hb, hml, hr, hlk, hown, hts, hK, hN, hi, hA1, hA2, hc, hs, hR⟩ := G
  intro H locs ls hP hS hl
  refine W.lcmp hx hb hd ?_
  exact lv_if_gt hx hb hd2 ht (fun q => kt ((lg_cmp_gt x y).mp q) H locs ls hP hS hl) (fun q => kf (fun z => q ((lg_cmp_gt x y).mpr z)) H locs ls hP hS hl)
theorem w_lc_le {g : Gm} {κ : ctx} {own : String} {cc : ByteArray} {nL : Nat} {ret : Option FieldType} {rm : Room} (G : OK g κ own cc nL ret rm) {pc : Nat} {lv : List (Nat × Value)} {rest : List Value} {L : Nat → va_E} {x y : Int64} {off : Int} {tgt : Nat} (hd : decode cc pc = .ok (.lcmp, 1)) (hd2 : decode cc (pc + 1) = .ok (.ifCond .le off, 3)) (ht : ((pc + 1 : Nat) : Int) + off = (tgt : Int)) (kt : x ≤ y → J g κ nL tgt lv rest L) (kf : ¬ (x ≤ y) → J g κ nL (pc + 4) lv rest L) : J g κ nL pc lv (.long y :: .long x :: rest) L := by
  obtain ⟨p, l, e, R, s, m, args, below, meth, c, cells, slots, Q, D, A⟩ := g
  obtain ⟨hx, hb, hml, hr, hlk, hown, hts, hK, hN, hi, hA1, hA2, hc, hs, hR⟩ := G
  intro H locs ls hP hS hl
  refine W.lcmp hx hb hd ?_
  exact lv_if_le hx hb hd2 ht (fun q => kt ((lg_cmp_le x y).mp q) H locs ls hP hS hl) (fun q => kf (fun z => q ((lg_cmp_le x y).mpr z)) H locs ls hP hS hl)
theorem w_lc_ne {g : Gm} {κ : ctx} {own : String} {cc : ByteArray} {nL : Nat} {ret : Option FieldType} {rm : Room} (G : OK g κ own cc nL ret rm) {pc : Nat} {lv : List (Nat × Value)} {rest : List Value} {L : Nat → va_E} {x y : Int64} {off : Int} {tgt : Nat} (hd : decode cc pc = .ok (.lcmp, 1)) (hd2 : decode cc (pc + 1) = .ok (.ifCond .ne off, 3)) (ht : ((pc + 1 : Nat) : Int) + off = (tgt : Int)) (kt : x = y → J g κ nL (pc + 4) lv rest L) (kf : ¬ (x = y) → J g κ nL tgt lv rest L) : J g κ nL pc lv (.long y :: .long x :: rest) L := by
  obtain ⟨p, l, e, R, s, m, args, below, meth, c, cells, slots, Q, D, A⟩ := g
  obtain ⟨hx, hb, hml, hr, hlk, hown, hts, hK, hN, hi, hA1, hA2, hc, hs, hR⟩ := G
  intro H locs ls hP hS hl
  refine W.lcmp hx hb hd ?_
  exact lv_if_ne hx hb hd2 ht (fun q => kf (fun z => q ((lg_cmp_eq x y).mpr z)) H locs ls hP hS hl) (fun q => kt ((lg_cmp_eq x y).mp q) H locs ls hP hS hl)
theorem w_ldc {g : Gm} {κ : ctx} {own : String} {cc : ByteArray} {nL : Nat} {ret : Option FieldType} {rm : Room} (G : OK g κ own cc nL ret rm) {pc : Nat} {lv : List (Nat × Value)} {rest : List Value} {L : Nat → va_E} {index : Nat} {v : Int32} (hw : Cond.constant own index v ∈ utbl) (hd : decode cc pc = .ok (.ldc index, 2)) (k : J g κ nL (pc + 2) lv (.int v :: rest) L) : J g κ nL pc lv (rest) L := by
  obtain ⟨p, l, e, R, s, m, args, below, meth, c, cells, slots, Q, D, A⟩ := g
  obtain ⟨hx, hb, hml, hr, hlk, hown, hts, hK, hN, hi, hA1, hA2, hc, hs, hR⟩ := G
  intro H locs ls hP hS hl
  exact lv_ldc hx hb hown (hts _ hw) hd (k H locs ls hP hS hl)
theorem w_ldc2 {g : Gm} {κ : ctx} {own : String} {cc : ByteArray} {nL : Nat} {ret : Option FieldType} {rm : Room} (G : OK g κ own cc nL ret rm) {pc : Nat} {lv : List (Nat × Value)} {rest : List Value} {L : Nat → va_E} {index : Nat} {v : Int64} (hw : Cond.constantLong own index v ∈ utbl) (hd : decode cc pc = .ok (.ldc2_w index, 3)) (k : J g κ nL (pc + 3) lv (.long v :: rest) L) : J g κ nL pc lv (rest) L := by
  obtain ⟨p, l, e, R, s, m, args, below, meth, c, cells, slots, Q, D, A⟩ := g
  obtain ⟨hx, hb, hml, hr, hlk, hown, hts, hK, hN, hi, hA1, hA2, hc, hs, hR⟩ := G
  intro H locs ls hP hS hl
  exact lv_ldc2 hx hb hown (hts _ hw) hd (k H locs ls hP hS hl)
theorem w_iald {g : Gm} {κ : ctx} {own : String} {cc : ByteArray} {nL : Nat} {ret : Option FieldType} {rm : Room} (G : OK g κ own cc nL ret rm) {pc : Nat} {lv : List (Nat × Value)} {rest : List Value} {L : Nat → va_E} (q : Nat) (hq : q < NW) {n : Nat} {f : Nat → Int32} (he : L q = .inl (κ.2.1, n, .inl f)) {i : Int32} (hin : vp_in i n) (hd : decode cc pc = .ok (.iaload, 1)) (k : J g κ nL (pc + 1) lv (.int (f i.toNatClampNeg) :: rest) L) : J g κ nL pc lv (.int i :: .ref (κ.1 q) :: rest) L := by
  obtain ⟨p, l, e, R, s, m, args, below, meth, c, cells, slots, Q, D, A⟩ := g
  obtain ⟨hx, hb, hml, hr, hlk, hown, hts, hK, hN, hi, hA1, hA2, hc, hs, hR⟩ := G
  intro H locs ls hP hS hl
  exact va_iald hx hb hK hP q 0 (by rw [wl_get hq, he]) rfl hin hd (k H locs ls hP hS hl)
theorem w_lald {g : Gm} {κ : ctx} {own : String} {cc : ByteArray} {nL : Nat} {ret : Option FieldType} {rm : Room} (G : OK g κ own cc nL ret rm) {pc : Nat} {lv : List (Nat × Value)} {rest : List Value} {L : Nat → va_E} (q : Nat) (hq : q < NW) {n : Nat} {f : Nat → Int64} (he : L q = .inl (κ.2.2.1, n, .inr (.inl f))) {i : Int32} (hin : vp_in i n) (hd : decode cc pc = .ok (.laload, 1)) (k : J g κ nL (pc + 1) lv (.long (f i.toNatClampNeg) :: rest) L) : J g κ nL pc lv (.int i :: .ref (κ.1 q) :: rest) L := by
  obtain ⟨p, l, e, R, s, m, args, below, meth, c, cells, slots, Q, D, A⟩ := g
  obtain ⟨hx, hb, hml, hr, hlk, hown, hts, hK, hN, hi, hA1, hA2, hc, hs, hR⟩ := G
  intro H locs ls hP hS hl
  exact va_lald hx hb hK hP q 1 (by rw [wl_get hq, he]) rfl hin hd (k H locs ls hP hS hl)
theorem w_iast {g : Gm} {κ : ctx} {own : String} {cc : ByteArray} {nL : Nat} {ret : Option FieldType} {rm : Room} (G : OK g κ own cc nL ret rm) {pc : Nat} {lv : List (Nat × Value)} {rest : List Value} {L : Nat → va_E} (q : Nat) (hq : q < NW) {n : Nat} {f : Nat → Int32} (he : L q = .inl (κ.2.1, n, .inl f)) {i x : Int32} (hin : vp_in i n) (hd : decode cc pc = .ok (.iastore, 1)) {L1 : Nat → va_E} (hL : va_up L q (.inl (κ.2.1, n, .inl (upd f i.toNatClampNeg x))) = L1) (k : J g κ nL (pc + 1) lv rest L1) : J g κ nL pc lv (.int x :: .int i :: .ref (κ.1 q) :: rest) L := by
  obtain ⟨p, l, e, R, s, m, args, below, meth, c, cells, slots, Q, D, A⟩ := g
  obtain ⟨hx, hb, hml, hr, hlk, hown, hts, hK, hN, hi, hA1, hA2, hc, hs, hR⟩ := G
  intro H locs ls hP hS hl
  refine va_iast hx hb hK hP (wl_D hi hA1) hS q 0 (by rw [wl_get hq, he]) rfl hin hd (fun H1 locs1 hP1 _ hS1 => ?_)
  rw [wl_set, hL] at hP1
  exact k H1 locs1 ls hP1 hS1 hl
theorem w_last {g : Gm} {κ : ctx} {own : String} {cc : ByteArray} {nL : Nat} {ret : Option FieldType} {rm : Room} (G : OK g κ own cc nL ret rm) {pc : Nat} {lv : List (Nat × Value)} {rest : List Value} {L : Nat → va_E} (q : Nat) (hq : q < NW) {n : Nat} {f : Nat → Int64} (he : L q = .inl (κ.2.2.1, n, .inr (.inl f))) {i : Int32} {x : Int64} (hin : vp_in i n) (hd : decode cc pc = .ok (.lastore, 1)) {L1 : Nat → va_E} (hL : va_up L q (.inl (κ.2.2.1, n, .inr (.inl (vp_updL f i.toNatClampNeg x)))) = L1) (k : J g κ nL (pc + 1) lv rest L1) : J g κ nL pc lv (.long x :: .int i :: .ref (κ.1 q) :: rest) L := by
  obtain ⟨p, l, e, R, s, m, args, below, meth, c, cells, slots, Q, D, A⟩ := g
  obtain ⟨hx, hb, hml, hr, hlk, hown, hts, hK, hN, hi, hA1, hA2, hc, hs, hR⟩ := G
  intro H locs ls hP hS hl
  refine va_last hx hb hK hP (wl_D hi hA1) hS q 1 (by rw [wl_get hq, he]) rfl hin hd (fun H1 locs1 hP1 _ hS1 => ?_)
  rw [wl_set, hL] at hP1
  exact k H1 locs1 ls hP1 hS1 hl
theorem w_aald {g : Gm} {κ : ctx} {own : String} {cc : ByteArray} {nL : Nat} {ret : Option FieldType} {rm : Room} (G : OK g κ own cc nL ret rm) {pc : Nat} {lv : List (Nat × Value)} {rest : List Value} {L : Nat → va_E} (q : Nat) (hq : q < NW) {n : Nat} {f : Nat → Option Nat} (he : L q = .inl (κ.2.2.2, n, .inr (.inr (.inr (.inr f))))) {i : Int32} {b : Nat} (hin : vp_in i n) (hf : f i.toNatClampNeg = some b) (hd : decode cc pc = .ok (.aaload, 1)) (k : J g κ nL (pc + 1) lv (.ref b :: rest) L) : J g κ nL pc lv (.int i :: .ref (κ.1 q) :: rest) L := by
  obtain ⟨p, l, e, R, s, m, args, below, meth, c, cells, slots, Q, D, A⟩ := g
  obtain ⟨hx, hb, hml, hr, hlk, hown, hts, hK, hN, hi, hA1, hA2, hc, hs, hR⟩ := G
  intro H locs ls hP hS hl
  have hlt : i.toNatClampNeg < n := Nat.not_le.mp fun z => hin (Or.inr z)
  have ha : (wl κ.1 L)[q]? = some (κ.1 q, .inl (κ.2.2.2, n, .inr (.inr (.inr (.inr f))))) := by rw [wl_get hq, he]
  have hcell := hP q _ ha
  refine W.aald (v := .ref b) (ty := .array .long) hx hb hcell ((hK.2 2 _ rfl).1 n (fun j => va_rf (f j))) rfl (fun z => by cases z) (by show ¬ (i < 0 ∨ (arrV _ _ _).slots.size ≤ _); rw [arrV_size]; exact hin) (by show (arrV _ _ _).slots[_]? = _; rw [arrV_read _ _ hlt, hf]; rfl) rfl rfl hd (k H locs ls hP hS hl)
theorem w_alen {g : Gm} {κ : ctx} {own : String} {cc : ByteArray} {nL : Nat} {ret : Option FieldType} {rm : Room} (G : OK g κ own cc nL ret rm) {pc : Nat} {lv : List (Nat × Value)} {rest : List Value} {L : Nat → va_E} (q : Nat) (hq : q < NW) {n : Nat} {f : (Nat → Int32) ⊕ (Nat → Int64) ⊕ (Nat → UInt32) ⊕ (Nat → UInt64) ⊕ (Nat → Option Nat)} (t : Nat) {ca : ClassId} {ty : FieldType} (he : L q = .inl (ca, n, f)) (ht : (tysOf κ)[t]? = some (ca, ty)) {v : Int32} (hv : Int32.ofNat n = v) (hd : decode cc pc = .ok (.arraylength, 1)) (k : J g κ nL (pc + 1) lv (.int v :: rest) L) : J g κ nL pc lv (.ref (κ.1 q) :: rest) L := by
  obtain ⟨p, l, e, R, s, m, args, below, meth, c, cells, slots, Q, D, A⟩ := g
  obtain ⟨hx, hb, hml, hr, hlk, hown, hts, hK, hN, hi, hA1, hA2, hc, hs, hR⟩ := G
  intro H locs ls hP hS hl
  exact va_alen hx hb hK hP q t (x := (n, f)) (by rw [wl_get hq, he]) ht hv hd (k H locs ls hP hS hl)
theorem w_get {g : Gm} {κ : ctx} {own : String} {cc : ByteArray} {nL : Nat} {ret : Option FieldType} {rm : Room} (G : OK g κ own cc nL ret rm) {pc : Nat} {lv : List (Nat × Value)} {rest : List Value} {L : Nat → va_E} (q : Nat) (hq : q < NW) {ci N index : Nat} {fs : List Value} {C : String} {T : u_T} (he : L q = .inr (ci, fs)) (hc1 : classes[ci]? = some (C, T, N)) (hw : ∀ w ∈ u_ws C T N, w ∈ utbl) (j : Nat) (hj : j < N) (hlk2 : Cond.fieldLink own index (T j).1 (T j).2.1 (T j).2.2.1 ∈ utbl) {v : Value} (hv : fs[j]? = some v) (hd : decode cc pc = .ok (.getfield index, 3)) (k : J g κ nL (pc + 3) lv (v :: rest) L) : J g κ nL pc lv (.ref (κ.1 q) :: rest) L := by
  obtain ⟨p, l, e, R, s, m, args, below, meth, c, cells, slots, Q, D, A⟩ := g
  obtain ⟨hx, hb, hml, hr, hlk, hown, hts, hK, hN, hi, hA1, hA2, hc, hs, hR⟩ := G
  intro H locs ls hP hS hl
  exact va_get hx hb hts hw hown hK hP q (by rw [wl_get hq, he]) hc1 j hj (hts _ hlk2) (fun _ z => z) hv hd (k H locs ls hP hS hl)
theorem w_put {g : Gm} {κ : ctx} {own : String} {cc : ByteArray} {nL : Nat} {ret : Option FieldType} {rm : Room} (G : OK g κ own cc nL ret rm) {pc : Nat} {lv : List (Nat × Value)} {rest : List Value} {L : Nat → va_E} (q : Nat) (hq : q < NW) {ci N index : Nat} {fs : List Value} {C : String} {T : u_T} (he : L q = .inr (ci, fs)) (hc1 : classes[ci]? = some (C, T, N)) (hw : ∀ w ∈ u_ws C T N, w ∈ utbl) (ty0 : Nat → FieldType) (hty : ∀ k, k < N → parseFieldDescriptor (T k).2.2.1 = some (ty0 k)) (hnm : ∀ a, a < N → ∀ b, b < N → a ≠ b → (T a).2.1 ≠ (T b).2.1) (j : Nat) (hj : j < N) (hlk2 : Cond.fieldLink own index (T j).1 (T j).2.1 (T j).2.2.1 ∈ utbl) (hfin : (T j).2.2.2 = false) {v : Value} (hn : narrow (ty0 j) v = v) (hfit : fits (ty0 j) v = true) (hl0 : j < fs.length) (hd : decode cc pc = .ok (.putfield index, 3)) {L1 : Nat → va_E} (hL : va_up L q (.inr (ci, fs.set j v)) = L1) (k : J g κ nL (pc + 3) lv rest L1) : J g κ nL pc lv (v :: .ref (κ.1 q) :: rest) L := by
  obtain ⟨p, l, e, R, s, m, args, below, meth, c, cells, slots, Q, D, A⟩ := g
  obtain ⟨hx, hb, hml, hr, hlk, hown, hts, hK, hN, hi, hA1, hA2, hc, hs, hR⟩ := G
  intro H locs ls hP hS hl
  refine va_put hx hb hts hw ty0 hty hnm hown hK hP (wl_D hi hA1) hS q (by rw [wl_get hq, he]) hc1 j hj (hts _ hlk2) (fun _ z => z) hfin (hty j hj) hn hfit hl0 hd (fun H1 locs1 hP1 _ hS1 => ?_)
  rw [wl_set, hL] at hP1
  exact k H1 locs1 ls hP1 hS1 hl
theorem w_iret {g : Gm} {κ : ctx} {own : String} {cc : ByteArray} {nL : Nat}  {rm : Room} (G : OK g κ own cc nL (some .int) rm) {pc : Nat} {lv : List (Nat × Value)} {L : Nat → va_E} {v : Int32} (hd : decode cc pc = .ok (.ireturn, 1)) (F : Fn g κ (some (.int v)) L) : J g κ nL pc lv [.int v] L := by
  obtain ⟨p, l, e, R, s, m, args, below, meth, c, cells, slots, Q, D, A⟩ := g
  obtain ⟨hx, hb, hml, hr, hlk, hown, hts, hK, hN, hi, hA1, hA2, hc, hs, hR⟩ := G
  intro H locs ls hP hS hl
  have F : Q = _ := F
  subst F
  exact W.iret hx hb hr (fun t ht hW => ⟨⟨rfl, by rw [ht]; exact hP⟩, hS.F ht⟩) hS.2.2 hd
theorem w_lret {g : Gm} {κ : ctx} {own : String} {cc : ByteArray} {nL : Nat}  {rm : Room} (G : OK g κ own cc nL (some .long) rm) {pc : Nat} {lv : List (Nat × Value)} {L : Nat → va_E} {v : Int64} (hd : decode cc pc = .ok (.lreturn, 1)) (F : Fn g κ (some (.long v)) L) : J g κ nL pc lv [.long v] L := by
  obtain ⟨p, l, e, R, s, m, args, below, meth, c, cells, slots, Q, D, A⟩ := g
  obtain ⟨hx, hb, hml, hr, hlk, hown, hts, hK, hN, hi, hA1, hA2, hc, hs, hR⟩ := G
  intro H locs ls hP hS hl
  have F : Q = _ := F
  subst F
  exact W.lret hx hb hr (fun t ht hW => ⟨⟨rfl, by rw [ht]; exact hP⟩, hS.F ht⟩) hS.2.2 hd
theorem w_zret {g : Gm} {κ : ctx} {own : String} {cc : ByteArray} {nL : Nat}  {rm : Room} (G : OK g κ own cc nL (some .boolean) rm) {pc : Nat} {lv : List (Nat × Value)} {L : Nat → va_E} {v : Int32} (hn : narrow .boolean (.int v) = .int v) (hd : decode cc pc = .ok (.ireturn, 1)) (F : Fn g κ (some (.int v)) L) : J g κ nL pc lv [.int v] L := by
  obtain ⟨p, l, e, R, s, m, args, below, meth, c, cells, slots, Q, D, A⟩ := g
  obtain ⟨hx, hb, hml, hr, hlk, hown, hts, hK, hN, hi, hA1, hA2, hc, hs, hR⟩ := G
  intro H locs ls hP hS hl
  have F : Q = _ := F
  subst F
  exact W.zret hx hb hr hn (fun t ht hW => ⟨⟨rfl, by rw [ht]; exact hP⟩, hS.F ht⟩) hS.2.2 hd
theorem w_vret {g : Gm} {κ : ctx} {own : String} {cc : ByteArray} {nL : Nat}  {rm : Room} (G : OK g κ own cc nL none rm) {pc : Nat} {lv : List (Nat × Value)} {L : Nat → va_E} (hd : decode cc pc = .ok (.return_, 1)) (F : Fn g κ none L) : J g κ nL pc lv [] L := by
  obtain ⟨p, l, e, R, s, m, args, below, meth, c, cells, slots, Q, D, A⟩ := g
  obtain ⟨hx, hb, hml, hr, hlk, hown, hts, hK, hN, hi, hA1, hA2, hc, hs, hR⟩ := G
  intro H locs ls hP hS hl
  have F : Q = _ := F
  subst F
  exact W.vret hx hb hr (fun t ht hW => ⟨⟨rfl, by rw [ht]; exact hP⟩, hS.F ht⟩) hS.2.2 hd
theorem w_aret {g : Gm} {κ : ctx} {own : String} {cc : ByteArray} {nL : Nat} {rt : FieldType} {rm : Room} (G : OK g κ own cc nL (some rt) rm) {pc : Nat} {lv : List (Nat × Value)} {L : Nat → va_E} {a : Nat} (hrt : (∃ n, rt = .object n) ∨ ∃ t, rt = .array t) (hd : decode cc pc = .ok (.areturn, 1)) (F : Fn g κ (some (.ref a)) L) : J g κ nL pc lv [.ref a] L := by
  obtain ⟨p, l, e, R, s, m, args, below, meth, c, cells, slots, Q, D, A⟩ := g
  obtain ⟨hx, hb, hml, hr, hlk, hown, hts, hK, hN, hi, hA1, hA2, hc, hs, hR⟩ := G
  intro H locs ls hP hS hl
  have F : Q = _ := F
  subst F
  exact W.aret hx hb hr hrt (Or.inr ⟨a, rfl⟩) (fun t ht hW => ⟨⟨rfl, by rw [ht]; exact hP⟩, hS.F ht⟩) hS.2.2 hd
theorem g_after {p : Program} {l : Launch} {e : Env} {R : Room} {s : State} {m : MethodId} {args : Array Value} {below : List Frame} {meth : Method} {c : Code} {H : Heap} {locs : List Loc} {cells slots : Nat} {Q : State → Prop} {pc : Nat} {ls : Array Slot} {st0 rest : List Value} {D : va_G} {κ : ctx} {A A1 free : Nat → Prop} {v : Option Value} {L' : Nat → va_E} {av : Array Value}
    (hr : va_Run p l e R s m args below meth c H locs cells slots 0 0 (F0 m pc ls st0) rest (Qx D κ A1 v L' av) free) (hS : va_S A s.heap H locs) (hA : ∀ q, A1 q → A q) (hf : ∀ q, free q → A q)
    (kk : ∀ (H1 : Heap) (locs1 : List Loc), va_P D classes (wl κ.1 L') H1 → va_S A s.heap H1 locs1 → W p l e R s m args below meth c H1 locs1 cells slots Q (F0 m (pc + 3) ls (v.toList ++ rest))) : W p l e R s m args below meth c H locs cells slots Q (F0 m pc ls st0) := by
  intro T hT X
  obtain ⟨v', st₀, t, T', L, h0, X', hL, e1, e2, ⟨⟨hv, hp⟩, hz, hk⟩, st⟩ := hr T hT X
  have ev : v' = v := Outcome.returned.inj hv
  subst ev
  rw [h0] at hz hk
  obtain ⟨t2, a1, b1⟩ := kk T'.heap (locs ++ L) (by rw [e1]; exact hp)
    ⟨Nat.le_trans hS.1 (by rw [e1]; exact hz), fun q h1 h2 => by rw [e1, hk q (Nat.lt_of_lt_of_le h1 hS.1) (fun z => h2 (hA q z))]; exact hS.2.1 q h1 h2, fun q hq => by
      rcases List.mem_append.mp hq with h | h
      · exact hS.2.2 q h
      · exact hf _ (hL q h)⟩ T' rfl X'
  exact ⟨t2, st t2 a1, b1⟩
/-- what a call needs of the tables, of the descriptor and of the room -/
def CB (y : MethodName) (b : ByteArray) (n' : Nat) (r' : Option FieldType) (rm' rm : Room) (n : Nat) : Prop := Cond.code y b n' r' ∈ utbl ∧ Cond.initialized y.cls ∈ utbl ∧ (y.cls ≠ "java/lang/invoke/MethodHandle" ∧ y.cls ≠ "java/lang/invoke/VarHandle" ∧ (parseMethodDescriptor y.desc).map (fun d => d.parameters.length) = some n) ∧ rm'.cells = 0 ∧ rm'.slots = 0 ∧ (rm'.frames + 1 ≤ rm.frames ∧ 8 + (n' + 11) + rm'.locals ≤ rm.locals)
theorem Pre.blind {D : va_G} {κ : ctx} {L : Nat → va_E} {sz : Nat} {av : List Value} : FrameBlind (va_Pc av (Pre D κ L sz)) := fun a3 U a4 a5 h => ⟨h.1, h.2.1, h.2.2.1, va_K.moved (u := U) (U := U.calling a4 a5 a3) (Vm.Alike.refl U.vm) h.2.2.2.1, NS.same (u := U) (U := U.calling a4 a5 a3) rfl h.2.2.2.2.1, h.2.2.2.2.2⟩
theorem w_callS {g : Gm} {κ : ctx} {own : String} {cc : ByteArray} {nL : Nat} {ret : Option FieldType} {rm : Room} (G : OK g κ own cc nL ret rm) {pc : Nat} {lv : List (Nat × Value)} {rest : List Value} {L : Nat → va_E} {y : MethodName} {b' : ByteArray} {n' index n : Nat} {r' : Option FieldType} {rm' : Room} {av : List Value} {v : Option Value} {L' : Nat → va_E} (hC : CB y b' n' r' rm' rm n) (hst : Cond.static y ∈ utbl) (hlink : Cond.methodLink own index y ∈ utbl) (hM : Mt y b' n' r' rm' κ av L v L') {st st' : List Value} (hst1 : av.reverse ++ rest = st) (hst2 : v.toList ++ rest = st') (hn : av.length = n) (hroom : (rest.map fun v => v.category).sum ≤ 8) (hd : decode cc pc = .ok (.invokestatic index, 3)) (k : J g κ nL (pc + 3) lv st' L') : J g κ nL pc lv st L := by
  obtain ⟨p, l, e, R, s, m, args, below, meth, c, cells, slots, Q, D, A⟩ := g
  obtain ⟨hx, hb, hml, hr, hlk, hown, hts, hK, hN, hi, hA1, hA2, hc, hs, hR⟩ := G
  intro H locs ls hP hS hl
  subst hR
  subst hst1
  subst hst2
  obtain ⟨c1, c2, c3, c4, c5, c6⟩ := hC
  have hAin := wl_Ain (L := L) (sz := H.size) hA1 (fun q hq => hA2 q (Nat.le_trans hS.1 hq))
  exact g_after (va_runS (As := av) (rest := rest) ⟨hx, hb, hml, hown, hts⟩ (hM l D H.size) ⟨callB_of n hts (uw_in c1) rfl c4 c5 (hts _ c2) (hts _ hlink) c3 c6, hts _ hst⟩ ⟨Pre.blind, fun U hU hW => ⟨rfl, by rw [hU], by rw [hU]; exact hP, va_K.moved hW.alike hK, NS.warm hW hN, hi⟩⟩ rfl hn hl.1 rfl (lv_room hroom) hd ⟨hc, hs⟩) hS hAin hAin (fun H1 locs1 hP1 hS1 => k H1 locs1 ls hP1 hS1 hl)
theorem w_callSN {g : Gm} {κ : ctx} {own : String} {cc : ByteArray} {nL : Nat} {ret : Option FieldType} {rm : Room} (G : OK g κ own cc nL ret rm) {pc : Nat} {lv : List (Nat × Value)} {rest : List Value} {L : Nat → va_E} {y : MethodName} {b' : ByteArray} {n' index n : Nat} {r' : Option FieldType} {rm' : Room} {av : List Value} {v : Option Value} {L' : Nat → va_E} {host : String} (hC : CB y b' n' r' rm' rm n) (hst : Cond.static y ∈ utbl) (hlink : Cond.methodLinkNest own index y host ∈ lw_tbl) (hM : Mt y b' n' r' rm' κ av L v L') {st st' : List Value} (hst1 : av.reverse ++ rest = st) (hst2 : v.toList ++ rest = st') (hn : av.length = n) (hroom : (rest.map fun v => v.category).sum ≤ 8) (hd : decode cc pc = .ok (.invokestatic index, 3)) (k : J g κ nL (pc + 3) lv st' L') : J g κ nL pc lv st L := by
  obtain ⟨p, l, e, R, s, m, args, below, meth, c, cells, slots, Q, D, A⟩ := g
  obtain ⟨hx, hb, hml, hr, hlk, hown, hts, hK, hN, hi, hA1, hA2, hc, hs, hR⟩ := G
  intro H locs ls hP hS hl
  subst hR
  subst hst1
  subst hst2
  obtain ⟨c1, c2, c3, c4, c5, c6⟩ := hC
  have hAin := wl_Ain (L := L) (sz := H.size) hA1 (fun q hq => hA2 q (Nat.le_trans hS.1 hq))
  exact g_after (va_runSN (As := av) (rest := rest) ⟨hx, hb, hml, hown, hts⟩ (hM l D H.size) ⟨va_cnB n hts (uw_in c1) rfl c4 c5 (hN _ hlink rfl) (hts _ c2) c3 c6, hts _ hst, trivial⟩ ⟨Pre.blind, fun U hU hW => ⟨rfl, by rw [hU], by rw [hU]; exact hP, va_K.moved hW.alike hK, NS.warm hW hN, hi⟩⟩ rfl hn hl.1 rfl (lv_room hroom) hd ⟨hc, hs⟩) hS hAin hAin (fun H1 locs1 hP1 hS1 => k H1 locs1 ls hP1 hS1 hl)
theorem w_callV {g : Gm} {κ : ctx} {own : String} {cc : ByteArray} {nL : Nat} {ret : Option FieldType} {rm : Room} (G : OK g κ own cc nL ret rm) {pc : Nat} {lv : List (Nat × Value)} {rest : List Value} {L : Nat → va_E} {y : MethodName} {b' : ByteArray} {n' index n : Nat} {r' : Option FieldType} {rm' : Room} {av : List Value} {v : Option Value} {L' : Nat → va_E} (q ci N : Nat) {T : u_T} {fs : List Value} (hq : q < NW) (he : L q = .inr (ci, fs)) (hc1 : classes[ci]? = some (y.cls, T, N)) (hC : CB y b' n' r' rm' rm n) (hinst : Cond.instanceMethod y ∈ utbl) (hsel : Cond.selects y.cls y y ∈ utbl) (hlink : Cond.methodLink own index y ∈ utbl) (hM : Mt y b' n' r' rm' κ (.ref (κ.1 q) :: av) L v L') {st st' : List Value} (hst1 : av.reverse ++ .ref (κ.1 q) :: rest = st) (hst2 : v.toList ++ rest = st') (hn : av.length = n) (hroom : (rest.map fun v => v.category).sum ≤ 8) (hd : decode cc pc = .ok (.invokevirtual index, 3)) (k : J g κ nL (pc + 3) lv st' L') : J g κ nL pc lv st L := by
  obtain ⟨p, l, e, R, s, m, args, below, meth, c, cells, slots, Q, D, A⟩ := g
  obtain ⟨hx, hb, hml, hr, hlk, hown, hts, hK, hN, hi, hA1, hA2, hc, hs, hR⟩ := G
  intro H locs ls hP hS hl
  subst hR
  subst hst1
  subst hst2
  obtain ⟨c1, c2, c3, c4, c5, c6⟩ := hC
  have hAin := wl_Ain (L := L) (sz := H.size) hA1 (fun q hq => hA2 q (Nat.le_trans hS.1 hq))
  have hw9 : (wl κ.1 L)[q]? = some (κ.1 q, .inr (ci, fs)) := by rw [wl_get hq, he]
  exact g_after (va_runV (As := av) (rest := rest) ⟨hx, hb, hml, hown, hts⟩ (hM l D H.size) ⟨callB_of n hts (uw_in c1) rfl c4 c5 (hts _ c2) (hts _ hlink) c3 c6, hts _ hinst, hts _ hsel⟩ ⟨Pre.blind, va_recv hK hP hc1 hw9, fun U hU hW => ⟨rfl, by rw [hU], by rw [hU]; exact hP, va_K.moved hW.alike hK, NS.warm hW hN, hi⟩⟩ rfl hn hl.1 rfl (lv_room hroom) hd ⟨hc, hs⟩) hS hAin hAin (fun H1 locs1 hP1 hS1 => k H1 locs1 ls hP1 hS1 hl)
theorem w_sub {g : Gm} {κ : ctx} {nL pc : Nat} {lv lv' : List (Nat × Value)} {st : List Value} {L : Nat → va_E} (is : List Nat) (h : is.filterMap (fun i => lv[i]?) = lv') (k : J g κ nL pc lv' st L) : J g κ nL pc lv st L := by
  obtain ⟨p, l, e, R, s, m, args, below, meth, c, cells, slots, Q, D, A⟩ := g
  intro H locs ls hP hS hl
  exact k H locs ls hP hS (lv_sub hl is h)
theorem w_eqL {g : Gm} {κ : ctx} {nL pc : Nat} {lv : List (Nat × Value)} {st : List Value} {L L' : Nat → va_E} (h : L = L') (k : J g κ nL pc lv st L') : J g κ nL pc lv st L := h ▸ k
/-- a part of a model that goes on only where c holds -/
noncomputable def gd {α : Type} (c : Prop) (x : Option α) : Option α := @ite _ c (Classical.propDecidable c) x none
theorem gd_some {α : Type} {c : Prop} {x : Option α} {b : α} (h : gd c x = some b) : c ∧ x = some b := by
  unfold gd at h
  by_cases hc : c
  · rw [if_pos hc] at h; exact ⟨hc, h⟩
  · rw [if_neg hc] at h; cases h
theorem gd_t {α : Type} {c : Prop} {x : Option α} (h : c) : gd c x = x := by unfold gd; rw [if_pos h]
theorem bd {α β : Type} {x : Option α} {f : α → Option β} {b : β} (h : x.bind f = some b) : ∃ a, x = some a ∧ f a = some b := Option.bind_eq_some_iff.mp h
theorem if_t {α : Type} {c : Prop} {i : Decidable c} {x y : Option α} {b : α} (hc : c) (h : @ite _ c i x y = some b) : x = some b := by rw [if_pos hc] at h; exact h
theorem if_f {α : Type} {c : Prop} {i : Decidable c} {x y : Option α} {b : α} (hc : ¬ c) (h : @ite _ c i x y = some b) : y = some b := by rw [if_neg hc] at h; exact h
