def RJM : String := "java/lang/Math"
def RJA : String := "java/util/Arrays"
def RK : String := "ShortVectors$Collector"
theorem up_id {L : Nat → va_E} {q : Nat} {e : va_E} (h : L q = e) : L = va_up L q e := funext fun k => by
  by_cases hk : k = q
  · subst hk; rw [va_up_self]; exact h
  · rw [va_up_ne _ _ hk]
theorem Met.ofWF {l : Launch} {y : MethodName} {ws ws' : List Cond} {rm : Room} {Pc : Array Value → State → Prop} {Qc : Array Value → State → Outcome → State → Prop} {mc ms : Nat} {free : Addr → Prop} {cc : ByteArray} {maxL : Nat} {ret : Option FieldType}
    (hy : plainFor y = true) (hw : ws = Cond.code y cc maxL ret :: ws')
    (body : ∀ p e s m args below meth c s₁, BodyLoose p l y (headSpec ws rm) cc maxL ret e s m args below meth c s₁ → c.maxLocals = maxL → Pc args s →
      W p l e (headSpec ws rm).room s m args below meth c s.heap [] 0 0 (MQ below Qc args s mc ms free) (entryFrame m args maxL)) : Met l y ws rm Pc Qc mc ms free := by
  refine MetFree.of_bodySF (code := cc) (maxLocals := maxL) (ret := ret) hy ?_ ?_
  · intro args s m h hn
    obtain ⟨meth, c, h1, h2, h3, h4, h5, h6, -, -⟩ := Cond.code_spec hn (atoms_spec (ws := ws) h _ (by rw [hw]; exact List.mem_cons_self))
    exact ⟨meth, c, h1, h2, h3, h4, h5, h6⟩
  · intro p e s m args below meth c s₁ B hml hP _
    have hh0 : s₁.heap = s.heap := by rw [B.state]; rfl
    obtain ⟨t, a1, o, b1, b2, b3⟩ := body p e s m args below meth c s₁ B hml hP s₁ hh0 (Stand.of_body B)
    exact ⟨t, o, a1, b1, b2, ⟨b3.1, b3.2⟩⟩
theorem Mt.ofF {y : MethodName} {b : ByteArray} {nL : Nat} {ret : Option FieldType} {rm : Room} {κ : ctx} {av : List Value} {L L' : Nat → va_E} {v : Option Value} (hy : plainFor y = true) (hn : (lg_sl av).length ≤ nL)
    (body : ∀ g : Gm, OK g κ y.cls b nL ret rm → Fn g κ v L' → J g κ nL 0 (lv_args 0 av) [] L) : Mt y b nL ret rm κ av L v L' := by
  intro l D sz
  refine Met.ofWF (cc := b) (maxL := nL) (ret := ret) hy rfl ?_
  intro p e s m args below meth c s₁ B hml hv
  obtain ⟨rfl, hsz, hP, hK, hN, hi⟩ := hv
  have hts := atoms_spec (ws := uw y b nL ret) B.pre
  have hown : s.vm.findClass y.cls = some m.cls := findClass_of_methodNamed B.named
  subst hsz
  have hl := lv_entry av (n := nL) hn
  rw [lg_entry_eq]
  exact body (p, l, e, rm, s, m, av.toArray, below, meth, c, 0, 0, MQ below (Qx D κ (va_A (wl κ.1 L) s.heap.size) v L') av.toArray s 0 0 (va_A (wl κ.1 L) s.heap.size), D, va_A (wl κ.1 L) s.heap.size)
    ⟨B.exec, B.bytes, hml, B.returns, B.notSynchronized, hown, fun w hw => hts w (List.mem_cons_of_mem _ hw), hK, hN, hi, fun k hk => wl_A hk, fun q hq => Or.inr hq, Nat.zero_le _, Nat.zero_le _, rfl⟩ rfl _ _ _ hP va_S.rf hl
theorem Mt.eqw {y : MethodName} {b : ByteArray} {nL : Nat} {ret : Option FieldType} {rm : Room} {κ : ctx} {av : List Value} {L L' L'' : Nat → va_E} {v : Option Value} (h : L' = L'') (hM : Mt y b nL ret rm κ av L v L') : Mt y b nL ret rm κ av L v L'' := h ▸ hM
theorem ixlt {i : Int32} {n : Nat} (h : vp_in i n) : i.toNatClampNeg < n := Nat.not_le.mp fun z => h (Or.inr z)
def og (κ : ctx) (base n : Nat) : Nat → Option Nat := fun i => if i < n then some (κ.1 (base + i)) else none
theorem og_at {κ : ctx} {base n i : Nat} (h : i < n) : og κ base n i = some (κ.1 (base + i)) := if_pos h
theorem LM_upX {κ : ctx} {τ : MS} {X : Nat → va_E} {k : Nat} {e : va_E} : va_up (LM κ τ X) (k + 15) e = LM κ τ (va_up X k e) := funext fun j => by
  by_cases h : j = k + 15
  · subst h
    rw [va_up_self]
    exact (va_up_self X k e).symm
  · rw [va_up_ne _ _ h]
    match j, h with
    | 0, _ => rfl
    | 1, _ => rfl
    | 2, _ => rfl
    | 3, _ => rfl
    | 4, _ => rfl
    | 5, _ => rfl
    | 6, _ => rfl
    | 7, _ => rfl
    | 8, _ => rfl
    | 9, _ => rfl
    | 10, _ => rfl
    | 11, _ => rfl
    | 12, _ => rfl
    | 13, _ => rfl
    | 14, _ => rfl
    | j + 15, h => exact (va_up_ne X e (fun q => h (by omega))).symm
/-! worlds by segments -/
def segL : List (Nat × (Nat → va_E)) → Nat → va_E
  | [], _ => .inr (0, [])
  | q :: r, k => if k < q.1 then q.2 k else segL r (k - q.1)
def segO : List (Nat × (Nat → va_E)) → Nat → Nat
  | [], _ => 0
  | _ :: _, 0 => 0
  | q :: r, j + 1 => q.1 + segO r j
theorem seg_at : ∀ (S : List (Nat × (Nat → va_E))) (j n i : Nat) (f : Nat → va_E), S[j]? = some (n, f) → i < n → segL S (segO S j + i) = f i
  | [], j, n, i, f, h, _ => by simp at h
  | q :: r, 0, n, i, f, h, hi => by
    simp at h
    subst h
    simp [segL, segO, hi]
  | q :: r, j + 1, n, i, f, h, hi => by
    have h2 : r[j]? = some (n, f) := by simpa using h
    show (if q.1 + segO r j + i < q.1 then _ else segL r (q.1 + segO r j + i - q.1)) = _
    rw [if_neg (by omega), show q.1 + segO r j + i - q.1 = segO r j + i by omega]
    exact seg_at r j n i f h2 hi
theorem seg_up : ∀ (S : List (Nat × (Nat → va_E))) (j n i : Nat) (f : Nat → va_E) (e : va_E), S[j]? = some (n, f) → i < n → va_up (segL S) (segO S j + i) e = segL (S.set j (n, va_up f i e))
  | [], j, n, i, f, e, h, _ => by simp at h
  | q :: r, 0, n, i, f, e, h, hi => by
    simp at h
    subst h
    funext k
    show (if k = segO ((n, f) :: r) 0 + i then e else segL ((n, f) :: r) k) = segL ((n, va_up f i e) :: r) k
    simp only [segO, segL, Nat.zero_add]
    by_cases hk : k = i
    · subst hk; rw [if_pos rfl, if_pos hi, va_up_self]
    · rw [if_neg hk]
      by_cases hn : k < n
      · rw [if_pos hn, if_pos hn, va_up_ne _ _ hk]
      · rw [if_neg hn, if_neg hn]
  | q :: r, j + 1, n, i, f, e, h, hi => by
    have h2 : r[j]? = some (n, f) := by simpa using h
    have ih := seg_up r j n i f e h2 hi
    funext k
    show (if k = q.1 + segO r j + i then e else if k < q.1 then q.2 k else segL r (k - q.1)) = (if k < q.1 then q.2 k else segL (r.set j (n, va_up f i e)) (k - q.1))
    rw [← ih]
    by_cases hk : k < q.1
    · rw [if_pos hk, if_neg (by omega)]
      simp [hk]
    · rw [if_neg hk, if_neg hk]
      unfold va_up
      by_cases h3 : k = q.1 + segO r j + i
      · rw [if_pos h3, if_pos (by omega)]
      · rw [if_neg h3, if_neg (by omega)]
theorem LM_at {κ : ctx} {τ : MS} {X : Nat → va_E} (k : Nat) : LM κ τ X (k + 15) = X k := rfl
theorem seg_at' (S : List (Nat × (Nat → va_E))) (j n i o : Nat) {f : Nat → va_E} {e : va_E} (h : S[j]? = some (n, f)) (ho : segO S j = o) (hi : i < n) (he : f i = e) : segL S (o + i) = e := by
  rw [← ho, seg_at S j n i f h hi, he]
theorem seg_up' (S S' : List (Nat × (Nat → va_E))) (j n i o : Nat) {f f' : Nat → va_E} {e : va_E} (h : S[j]? = some (n, f)) (ho : segO S j = o) (hi : i < n) (hf : va_up f i e = f') (hS : S.set j (n, f') = S') : va_up (segL S) (o + i) e = segL S' := by
  rw [← ho, seg_up S j n i f e h hi, hf, hS]
def one (e : va_E) : Nat → va_E := fun i => if i = 0 then e else .inr (0, [])
theorem one_0 (e : va_E) : one e 0 = e := rfl
theorem one_up (e e' : va_E) : va_up (one e) 0 e' = one e' := funext fun i => by
  unfold va_up one
  by_cases h : i = 0
  · rw [if_pos h, if_pos h]
  · rw [if_neg h, if_neg h, if_neg h]
def gcell (κ : ctx) (x : Nat → Nat → Int64) : Nat → va_E := fun i => .inl (κ.2.2.1, 4, .inr (.inl (x i)))
theorem gcell_up (κ : ctx) (x : Nat → Nat → Int64) (i : Nat) (y : Nat → Int64) : va_up (gcell κ x) i (.inl (κ.2.2.1, 4, .inr (.inl y))) = gcell κ (va_up x i y) := funext fun k => by
  unfold va_up gcell
  by_cases h : k = i
  · simp [h]
  · simp [h]
theorem w_abs {g : Gm} {κ : ctx} {own : String} {cc : ByteArray} {nL : Nat} {ret : Option FieldType} {rm : Room} (G : OK g κ own cc nL ret rm) {pc : Nat} {lv : List (Nat × Value)} {rest : List Value} {L : Nat → va_E} {x : Int64} {index : Nat} (w1 : Cond.methodLink own index Lib.MathLoose.abs_long.x ∈ utbl) (w2 : Cond.static Lib.MathLoose.abs_long.x ∈ utbl) (w3 : Cond.initialized "java/lang/Math" ∈ utbl) (w4 : Cond.code Lib.MathLoose.abs_long.x Lib.MathLoose.abs_long.code 2 (some .long) ∈ utbl) (hf : 1 ≤ rm.frames) (hlo : (rest.map fun v => v.category).sum + 13 ≤ rm.locals) (hd : decode cc pc = .ok (.invokestatic index, 3)) (k : J g κ nL (pc + 3) lv (.long (if 0 < x then x else -x) :: rest) L) : J g κ nL pc lv (.long x :: rest) L := by
  obtain ⟨p, l, e, R, s, m, args, below, meth, c, cells, slots, Q, D, A⟩ := g
  obtain ⟨hx, hb, hml, hr, hlk, hown, hts, hK, hN, hi, hA1, hA2, hc, hs, hR⟩ := G
  intro H locs ls hP hS hl
  subst hR
  exact va_mabs_long hx hb (by rw [hml]; exact hl.1.symm) hown (hts _ w1) (hts _ w2) (hts _ w3) (hts _ w4) hf hlo hc hs hd (k H locs ls hP hS hl)
theorem w_max {g : Gm} {κ : ctx} {own : String} {cc : ByteArray} {nL : Nat} {ret : Option FieldType} {rm : Room} (G : OK g κ own cc nL ret rm) {pc : Nat} {lv : List (Nat × Value)} {rest : List Value} {L : Nat → va_E} {x y : Int64} {index : Nat} (w1 : Cond.methodLink own index Lib.MathLoose.max_long.x ∈ utbl) (w2 : Cond.static Lib.MathLoose.max_long.x ∈ utbl) (w3 : Cond.initialized "java/lang/Math" ∈ utbl) (w4 : Cond.code Lib.MathLoose.max_long.x Lib.MathLoose.max_long.code 4 (some .long) ∈ utbl) (hf : 1 ≤ rm.frames) (hlo : (rest.map fun v => v.category).sum + 15 ≤ rm.locals) (hd : decode cc pc = .ok (.invokestatic index, 3)) (k : J g κ nL (pc + 3) lv (.long (if y < x then x else y) :: rest) L) : J g κ nL pc lv (.long y :: .long x :: rest) L := by
  obtain ⟨p, l, e, R, s, m, args, below, meth, c, cells, slots, Q, D, A⟩ := g
  obtain ⟨hx, hb, hml, hr, hlk, hown, hts, hK, hN, hi, hA1, hA2, hc, hs, hR⟩ := G
  intro H locs ls hP hS hl
  subst hR
  exact va_mmax_long hx hb (by rw [hml]; exact hl.1.symm) hown (hts _ w1) (hts _ w2) (hts _ w3) (hts _ w4) hf hlo hc hs hd (k H locs ls hP hS hl)
theorem w_min {g : Gm} {κ : ctx} {own : String} {cc : ByteArray} {nL : Nat} {ret : Option FieldType} {rm : Room} (G : OK g κ own cc nL ret rm) {pc : Nat} {lv : List (Nat × Value)} {rest : List Value} {L : Nat → va_E} {x y : Int32} {index : Nat} (w1 : Cond.methodLink own index Lib.Math.min.name ∈ utbl) (w2 : Cond.static Lib.Math.min.name ∈ utbl) (w3 : Cond.initialized "java/lang/Math" ∈ utbl) (w4 : Cond.code Lib.Math.min.name Lib.Math.min.code 2 (some .int) ∈ utbl) (hf : 1 ≤ rm.frames) (hlo : (rest.map fun v => v.category).sum + 13 ≤ rm.locals) (hd : decode cc pc = .ok (.invokestatic index, 3)) (k : J g κ nL (pc + 3) lv (.int (if y < x then y else x) :: rest) L) : J g κ nL pc lv (.int y :: .int x :: rest) L := by
  obtain ⟨p, l, e, R, s, m, args, below, meth, c, cells, slots, Q, D, A⟩ := g
  obtain ⟨hx, hb, hml, hr, hlk, hown, hts, hK, hN, hi, hA1, hA2, hc, hs, hR⟩ := G
  intro H locs ls hP hS hl
  subst hR
  exact va_mmin hx hb (by rw [hml]; exact hl.1.symm) hown (hts _ w1) (hts _ w2) (hts _ w3) (hts _ w4) hf hlo hc hs hd (k H locs ls hP hS hl)
theorem w_acopy {g : Gm} {κ : ctx} {own : String} {cc : ByteArray} {nL : Nat} {ret : Option FieldType} {rm : Room} (G : OK g κ own cc nL ret rm) {pc : Nat} {lv : List (Nat × Value)} {rest : List Value} {L : Nat → va_E} {index : Nat} (w1 : Cond.methodLink own index arraycopyName ∈ utbl) (w2 : Cond.native arraycopyName ∈ utbl) (w3 : Cond.static arraycopyName ∈ utbl) (w4 : Cond.initialized "java/lang/System" ∈ utbl) (qa qb : Nat) (hqa : qa < NW) (hqb : qb < NW) {f f' : Nat → Int64} (ha : L qa = .inl (κ.2.2.1, 4, .inr (.inl f))) (hb' : L qb = .inl (κ.2.2.1, 4, .inr (.inl f'))) (hf : 1 ≤ rm.frames) (hlo : (rest.map fun v => v.category).sum + (nativeFrameWords "java/lang/System" "arraycopy" 5 + 11) ≤ rm.locals) (hd : decode cc pc = .ok (.invokestatic index, 3)) {L1 : Nat → va_E} (hL : va_up L qb (.inl (κ.2.2.1, 4, .inr (.inl (va_cpy f f' 0 0 4)))) = L1) (k : J g κ nL (pc + 3) lv rest L1) : J g κ nL pc lv (.int 4 :: .int 0 :: .ref (κ.1 qb) :: .int 0 :: .ref (κ.1 qa) :: rest) L := by
  obtain ⟨p, l, e, R, s, m, args, below, meth, c, cells, slots, Q, D, A⟩ := g
  obtain ⟨hx, hb, hml, hr, hlk, hown, hts, hK, hN, hi, hA1, hA2, hc, hs, hR⟩ := G
  intro H locs ls hP hS hl
  subst hR
  refine va_copyl hx hb (by rw [hml]; exact hl.1.symm) hown (hts _ w1) (hts _ w2) (hts _ w3) (hts _ w4) hK hP (wl_D hi hA1) hS qa qb 1 1 (by rw [wl_get hqa, ha]) (by rw [wl_get hqb, hb']) rfl rfl rfl (by decide) (by decide) (by decide) (by decide) (by decide) (fun i _ => rfl) hf hlo hd (fun H1 locs1 hP1 _ hS1 => ?_)
  rw [wl_set] at hP1
  have e4 : (4 : Int32).toNatClampNeg = 4 := by decide
  have e0 : (0 : Int32).toNatClampNeg = 0 := by decide
  rw [e4, e0, hL] at hP1
  exact k H1 locs1 ls hP1 hS1 hl
