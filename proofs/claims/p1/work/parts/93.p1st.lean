/-! p1: the calls of a fresh object, as the law asks for them -/
def Fr (σ : CS) (τ : MS) : Prop := σ = σ0 ∧ τ = τ0
def PBt : List Z4 → (Nat → Nat → Int64) → (Nat → Nat → Int64) → (Nat → Int64) → (Nat → Int64) → Int32 → Prop := fun _ _ _ _ _ _ => True
def PTt : List Z4 → (Nat → Int32) → Prop := fun _ _ => True
def PLt : List Z4 → (Nat → Nat → Int64) → Int32 → Prop := fun _ _ _ => True
def QLt : List Z4 → (Nat → Int64) → Prop := fun _ _ => True
def QMt : List Z4 → (Nat → Int32) → Prop := fun _ _ => True
theorem Tt_of {α : Type} {n : Nat} {mk : α → Value} {ret : Option FieldType} {yV : MethodName} {bV : ByteArray} {nV : Nat} {rV : Room} {yM : MethodName} {bM : ByteArray} {nM : Nat} {rM : Room} (h : St (InvP PBt PTt PLt QLt QMt) n mk ret yV bV nV rV yM bM nM rM) : Tt Fr n mk ret yV bV nV rV yM bM nM rM := by
  intro σ τ hI is hl
  obtain ⟨rfl, rfl⟩ := hI
  obtain ⟨v, σ', τ', -, h1, h2⟩ := h σ0 τ0 InvP_0 is hl
  exact ⟨v, σ', τ', trivial, h1, h2⟩
theorem list2 {l : List Int32} (h : l.length = 2) : ∃ a b, l = [a, b] := by
  match l, h with
  | [a, b], _ => exact ⟨a, b, rfl⟩
theorem list5 {l : List Int32} (h : l.length = 5) : ∃ a b c d e, l = [a, b, c, d, e] := by
  match l, h with
  | [a, b, c, d, e], _ => exact ⟨a, b, c, d, e, rfl⟩
theorem Mt_v {α : Type} {mk : α → Value} {y : MethodName} {c : ByteArray} {n : Nat} {ret : Option FieldType} {rm : Room} {κ : ctx} {args : List Value} {L L' : Nat → va_E} {v v' : α} (h : v = v') (H : Mt y c n ret rm κ args L (some (mk v)) L') : Mt y c n ret rm κ args L (some (mk v')) L' := by
  subst h
  exact H
theorem out_of {α β : Type} {x : Option (α × β)} {a : α} {b : β} (h : x = some (a, b)) : ∃ o, x = some o ∧ o.1 = a := ⟨_, h, rfl⟩
set_option maxHeartbeats 4000000 in
set_option maxRecDepth 100000 in
theorem fr_volume : Tt Fr 0 Value.long (some .long) yV_volume cV_volume 1 rm_V_volume yM_volume cM_volume 6 rm_M_volume := by
  intro σ τ hI is hl
  obtain rfl := list0 hl
  obtain ⟨rfl, rfl⟩ := hI
  obtain ⟨_, _, h⟩ := vvol_0 (fun _ _ => 0) (fun _ _ => 0) (fun _ _ => 0) (fun _ => 0) (fun _ => 0) (fun _ => 0) 0
  obtain ⟨o1, e1, v1⟩ := out_of h
  obtain ⟨o2, e2, v2⟩ := mvol_0 (gen := fun _ => 0) (w := 0) (rows := 0) (row := fun _ => 0) (piv := fun _ => 0) (f := fun _ => 0) 
  have e12 : o1.1 = o2.1 := by rw [v1, v2]
  exact ⟨o1.1, _, _, trivial, fun κ => met_V_volume κ τ0 1000002 e1, fun κ => Mt_v (mk := Value.long) e12.symm (met_M_volume κ _ 1000 e2)⟩
set_option maxHeartbeats 4000000 in
set_option maxRecDepth 100000 in
theorem fr_minimum : Tt Fr 1 Value.int (some .int) yV_minimum cV_minimum 2 rm_V_minimum yM_minimum cM_minimum 2 rm_M_minimum := by
  intro σ τ hI is hl
  obtain ⟨a, rfl⟩ := list1 hl
  obtain ⟨rfl, rfl⟩ := hI
  have h := vmin_0 (fun _ _ => 0) (fun _ _ => 0) (fun _ => 0) (fun _ => 0) (fun _ => 0) 0 a
  obtain ⟨o1, e1, v1⟩ := out_of h
  obtain ⟨o2, e2, v2⟩ := mmin_0 (gen := fun _ => 0) (w := 0) (rows := 0) (row := fun _ => 0) (piv := fun _ => 0) (f := fun _ => 0) (mult := fun _ => 0) (last := fun _ => 0) (made := fun _ => 0) (settled := fun _ => 0) (point := fun _ => 0) (limit := 0) (mode := 0) (counted := 0) (held := 0) (first := fun _ => 0) (squares := fun _ => 0) (wanted := 0) (spanned := 0) (span := fun _ => 0) (found := fun _ => 0) (any := 0) (minima := fun _ => 0) (measured := 0) a 
  have e12 : o1.1 = o2.1 := by rw [v1, v2]
  exact ⟨o1.1, _, _, trivial, fun κ => met_V_minimum κ τ0 1000002 a e1, fun κ => Mt_v (mk := Value.int) e12.symm (met_M_minimum κ _ 1000 a e2)⟩
set_option maxHeartbeats 4000000 in
set_option maxRecDepth 100000 in
theorem fr_count : Tt Fr 1 Value.int (some .int) yV_count cV_count 2 rm_V_count yM_count cM_count 2 rm_M_count := by
  intro σ τ hI is hl
  obtain ⟨a, rfl⟩ := list1 hl
  obtain ⟨rfl, rfl⟩ := hI
  obtain ⟨_, _, _, _, _, _, _, _, h⟩ := vcount_0 (fun _ _ => 0) (fun _ _ => 0) (fun _ _ => 0) (fun _ => 0) (fun _ => 0) (fun _ => 0) (fun _ => 0) 0 0 (fun _ => 0) rfl a
  obtain ⟨o1, e1, v1⟩ := out_of h
  obtain ⟨o2, e2, v2⟩ := mcount_0 (gen := fun _ => 0) (w := 0) (rows := 0) (row := fun _ => 0) (piv := fun _ => 0) (f := fun _ => 0) (mult := fun _ => 0) (last := fun _ => 0) (made := fun _ => 0) (settled := fun _ => 0) (point := fun _ => 0) (limit := 0) (mode := 0) (counted := 0) (held := 0) (first := fun _ => 0) (squares := fun _ => 0) (wanted := 0) (spanned := 0) (span := fun _ => 0) (found := fun _ => 0) (any := 0) a 
  have e12 : o1.1 = o2.1 := by rw [v1, v2]
  exact ⟨o1.1, _, _, trivial, fun κ => met_V_count κ τ0 1000002 a e1, fun κ => Mt_v (mk := Value.int) e12.symm (met_M_count κ _ 1000 a e2)⟩
set_option maxHeartbeats 4000000 in
set_option maxRecDepth 100000 in
theorem fr_vector : Tt Fr 2 Value.int (some .int) yV_vector cV_vector 3 rm_V_vector yM_vector cM_vector 3 rm_M_vector := by
  intro σ τ hI is hl
  obtain ⟨a, b, rfl⟩ := list2 hl
  obtain ⟨rfl, rfl⟩ := hI
  obtain ⟨_, _, _, _, _, _, _, _, _, _, h⟩ := vvector_0 (fun _ _ => 0) (fun _ _ => 0) (fun _ _ => 0) (fun _ _ => 0) (fun _ => 0) (fun _ => 0) (fun _ => 0) (fun _ => 0) (fun _ => 0) 0 0 0 rfl a b
  obtain ⟨o1, e1, v1⟩ := out_of h
  obtain ⟨o2, e2, v2⟩ := mvector_0 (gen := fun _ => 0) (w := 0) (rows := 0) (row := fun _ => 0) (piv := fun _ => 0) (f := fun _ => 0) (mult := fun _ => 0) (last := fun _ => 0) (made := fun _ => 0) (settled := fun _ => 0) (point := fun _ => 0) (limit := 0) (mode := 0) (counted := 0) (held := 0) (first := fun _ => 0) (squares := fun _ => 0) (wanted := 0) (spanned := 0) (span := fun _ => 0) (found := fun _ => 0) (any := 0) a b 
  have e12 : o1.1 = o2.1 := by rw [v1, v2]
  exact ⟨o1.1, _, _, trivial, fun κ => met_V_vector κ τ0 1000002 a b e1, fun κ => Mt_v (mk := Value.int) e12.symm (met_M_vector κ _ 1000 a b e2)⟩
set_option maxHeartbeats 4000000 in
set_option maxRecDepth 100000 in
theorem fr_distance : Tt Fr 4 Value.int (some .int) yV_distance cV_distance 5 rm_V_distance yM_distance cM_distance 5 rm_M_distance := by
  intro σ τ hI is hl
  obtain ⟨a, b, c, d, rfl⟩ := list4 hl
  obtain ⟨rfl, rfl⟩ := hI
  obtain ⟨_, _, _, _, _, _, _, _, _, _, h⟩ := vdist_0 (fun _ => 0) (fun _ => 0) (fun _ => 0) (fun _ => 0) (fun _ => 0) (fun _ => 0) (fun _ _ => 0) (fun _ _ => 0) (fun _ _ => 0) 0 0 0 a b c d
  obtain ⟨o1, e1, v1⟩ := out_of h
  obtain ⟨o2, e2, v2⟩ := mdist_0 (gen := fun _ => 0) (w := 0) (rows := 0) (row := fun _ => 0) (piv := fun _ => 0) (f := fun _ => 0) (mult := fun _ => 0) (last := fun _ => 0) (made := fun _ => 0) (settled := fun _ => 0) (point := fun _ => 0) (limit := 0) (mode := 0) (counted := 0) (held := 0) (first := fun _ => 0) (squares := fun _ => 0) (wanted := 0) (spanned := 0) (span := fun _ => 0) (found := fun _ => 0) (any := 0) a b c d 
  have e12 : o1.1 = o2.1 := by rw [v1, v2]
  exact ⟨o1.1, _, _, trivial, fun κ => met_V_distance κ τ0 1000002 a b c d e1, fun κ => Mt_v (mk := Value.int) e12.symm (met_M_distance κ _ 1000 a b c d e2)⟩
set_option maxHeartbeats 4000000 in
set_option maxRecDepth 100000 in
theorem fr_nearest : Tt Fr 5 Value.int (some .int) yV_nearest cV_nearest 6 rm_V_nearest yM_nearest cM_nearest 6 rm_M_nearest := by
  intro σ τ hI is hl
  obtain ⟨a, b, c, d, e, rfl⟩ := list5 hl
  obtain ⟨rfl, rfl⟩ := hI
  obtain ⟨_, _, _, _, _, _, _, _, _, _, h⟩ := vnear_0 (fun _ => 0) (fun _ => 0) (fun _ => 0) (fun _ => 0) (fun _ => 0) (fun _ => 0) (fun _ _ => 0) (fun _ _ => 0) (fun _ _ => 0) 0 0 0 a b c d e
  obtain ⟨o1, e1, v1⟩ := out_of h
  obtain ⟨o2, e2, v2⟩ := mnear_0 (gen := fun _ => 0) (w := 0) (rows := 0) (row := fun _ => 0) (piv := fun _ => 0) (f := fun _ => 0) (mult := fun _ => 0) (last := fun _ => 0) (made := fun _ => 0) (settled := fun _ => 0) (point := fun _ => 0) (limit := 0) (mode := 0) (counted := 0) (held := 0) (first := fun _ => 0) (squares := fun _ => 0) (wanted := 0) (spanned := 0) (span := fun _ => 0) (found := fun _ => 0) (any := 0) a b c d e 
  have e12 : o1.1 = o2.1 := by rw [v1, v2]
  exact ⟨o1.1, _, _, trivial, fun κ => met_V_nearest κ τ0 1000002 a b c d e e1, fun κ => Mt_v (mk := Value.int) e12.symm (met_M_nearest κ _ 1000 a b c d e e2)⟩
theorem fr_all : TtA Fr := ⟨Tt_of st_add, Tt_of st_drop, Tt_of st_generators, Tt_of st_rank, fr_volume, Tt_of st_spare, Tt_of st_has, Tt_of st_order, fr_minimum, fr_count, fr_vector, fr_distance, fr_nearest⟩
theorem Fr_0 : Fr σ0 τ0 := ⟨rfl, rfl⟩
