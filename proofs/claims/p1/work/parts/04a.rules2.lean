theorem tsout (x : Int32) (n : Nat) (hn : n < 2 ^ 31) (h : ∀ k : Nat, k ≤ n → ¬ x = nI k) : x.toInt < 0 ∨ (n : Int) < x.toInt := by
  refine Decidable.byContradiction fun q => ?_
  have h1 : 0 ≤ x.toInt := by omega
  have h2 : x.toInt ≤ (n : Int) := by omega
  exact h x.toInt.toNat (by omega) (Int32.toInt_inj.mp (by rw [nI_toInt (by omega)]; omega))
theorem w_tsIn {g : Gm} {κ : ctx} {own : String} {cc : ByteArray} {nL : Nat} {ret : Option FieldType} {rm : Room} (G : OK g κ own cc nL ret rm) {pc : Nat} {lv : List (Nat × Value)} {rest : List Value} {L : Nat → va_E} {dflt lo hi : Int} {offs : Array Int} {len : Nat} {x : Int32} {off : Int} {tgt : Nat} (hd : decode cc pc = .ok (.tableswitch dflt lo hi offs, len)) (h1 : ¬ x.toInt < lo) (h2 : ¬ hi < x.toInt) (ho : offs[(x.toInt - lo).toNat]? = some off) (ht : (pc : Int) + off = (tgt : Int)) (k : J g κ nL tgt lv rest L) : J g κ nL pc lv (.int x :: rest) L := by
  obtain ⟨p, l, e, R, s, m, args, below, meth, c, cells, slots, Q, D, A⟩ := g
  obtain ⟨hx, hb, hml, hr, hlk, hown, hts, hK, hN, hi, hA1, hA2, hc, hs, hR⟩ := G
  intro H locs ls hP hS hl
  exact lv_tableIn hx hb hd h1 h2 ho ht (k H locs ls hP hS hl)
theorem w_tsOut {g : Gm} {κ : ctx} {own : String} {cc : ByteArray} {nL : Nat} {ret : Option FieldType} {rm : Room} (G : OK g κ own cc nL ret rm) {pc : Nat} {lv : List (Nat × Value)} {rest : List Value} {L : Nat → va_E} {dflt lo hi : Int} {offs : Array Int} {len : Nat} {x : Int32} {tgt : Nat} (hd : decode cc pc = .ok (.tableswitch dflt lo hi offs, len)) (h : x.toInt < lo ∨ hi < x.toInt) (ht : (pc : Int) + dflt = (tgt : Int)) (k : J g κ nL tgt lv rest L) : J g κ nL pc lv (.int x :: rest) L := by
  obtain ⟨p, l, e, R, s, m, args, below, meth, c, cells, slots, Q, D, A⟩ := g
  obtain ⟨hx, hb, hml, hr, hlk, hown, hts, hK, hN, hi, hA1, hA2, hc, hs, hR⟩ := G
  intro H locs ls hP hS hl
  exact lv_tableOut hx hb hd h ht (k H locs ls hP hS hl)
