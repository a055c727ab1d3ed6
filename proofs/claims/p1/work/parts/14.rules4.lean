theorem z05 : (0 : Int32).toNatClampNeg < 5 := by decide
theorem w_callU {g : Gm} {κ : ctx} {own : String} {cc : ByteArray} {nL : Nat} {ret : Option FieldType} {rm : Room} (G : OK g κ own cc nL ret rm) {pc : Nat} {lv : List (Nat × Value)} {rest : List Value} {L : Nat → va_E} {x y : MethodName} {b' : ByteArray} {n' index n : Nat} {r' : Option FieldType} {rm' : Room} {av : List Value} {v : Option Value} {L' : Nat → va_E} (q ci N : Nat) {T : u_T} {fs : List Value} {C owner : String} (hq : q < NW) (he : L q = .inr (ci, fs)) (hc1 : classes[ci]? = some (C, T, N)) (hC : CB y b' n' r' rm' rm n) (hlink : Cond.methodLink own index x ∈ utbl) (hsame : Cond.sameMethod x.cls owner x.name x.desc ∈ utbl) (hsel : Cond.selects C x y ∈ utbl) (hinst : Cond.instanceMethod y ∈ utbl) (hdecl : Cond.declares ⟨owner, x.name, x.desc⟩ ∈ lw_tbl) (how : owner ≠ "java/lang/invoke/MethodHandle" ∧ owner ≠ "java/lang/invoke/VarHandle") (hxd : x.desc = y.desc) (hM : Mt y b' n' r' rm' κ (.ref (κ.1 q) :: av) L v L') {st st' : List Value} (hst1 : av.reverse ++ .ref (κ.1 q) :: rest = st) (hst2 : v.toList ++ rest = st') (hn : av.length = n) (hroom : (rest.map fun v => v.category).sum ≤ 8) (hd : decode cc pc = .ok (.invokevirtual index, 3)) (k : J g κ nL (pc + 3) lv st' L') : J g κ nL pc lv st L := by
  obtain ⟨p, l, e, R, s, m, args, below, meth, c, cells, slots, Q, D, A⟩ := g
  obtain ⟨hx, hb, hml, hr, hlk, hown, hts, hK, hN, hi, hA1, hA2, hc, hs, hR⟩ := G
  intro H locs ls hP hS hl
  subst hR
  subst hst1
  subst hst2
  obtain ⟨c1, c2, c3, c4, c5, c6⟩ := hC
  have hAin := wl_Ain (L := L) (sz := H.size) hA1 (fun q hq => hA2 q (Nat.le_trans hS.1 hq))
  have hw9 : (wl κ.1 L)[q]? = some (κ.1 q, .inr (ci, fs)) := by rw [wl_get hq, he]
  have hG : GoodIn utbl (va_wsU own index C owner x y (uw y b' n' r')) := by
    intro w hw
    rcases List.mem_append.mp hw with h | h
    · have hm : w ∈ utbl := by
        simp only [List.mem_cons, List.not_mem_nil, or_false] at h
        rcases h with h | h | h | h | h <;> rw [h]
        · exact hlink
        · exact hsame
        · exact hsel
        · exact hinst
        · exact c2
      exact ⟨hm, good_of_word (List.mem_filter.mp hm).2⟩
    · exact uw_in c1 w h
  exact g_after (va_runU (As := av) (rest := rest) ⟨hx, hb, hml, hown, hts⟩ (hM l D H.size) (va_cwA n hts hG rfl c4 c5 (hN _ hdecl rfl) ⟨how.1, how.2, by rw [hxd]; exact c3.2.2⟩ c6) ⟨Pre.blind, va_recv hK hP hc1 hw9, fun U hU hW => ⟨rfl, by rw [hU], by rw [hU]; exact hP, va_K.moved hW.alike hK, NS.warm hW hN, hi⟩⟩ rfl hn hl.1 rfl (lv_room hroom) hd ⟨hc, hs⟩) hS hAin hAin (fun H1 locs1 hP1 hS1 => k H1 locs1 ls hP1 hS1 hl)
