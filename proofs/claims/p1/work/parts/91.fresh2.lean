/-! A fresh object: the reference's side -/
theorem look_0 {gen : Nat → Int32} {w rows : Int32} {row : Nat → Int64} {piv : Nat → Int32} {f : Nat → Int64} : M_look 1000 0 gen 0 w rows row piv f (-1) = some (1, -1, 0, row, piv, f) := by
  unfold M_look
  rw [if_pos rfl, show lM_look_33 1000 0 gen (-1) 1000 0 0 row piv f = some (0, row, piv, f) from by rw [lM_look_33, if_pos (by decide)], Option.bind_some]
theorem mvol_0 {gen : Nat → Int32} {w rows : Int32} {row : Nat → Int64} {piv : Nat → Int32} {f : Nat → Int64} : ∃ out, M_volume 1000 0 gen 0 w rows row piv f = some out ∧ out.1 = 1 := by
  have hE : Ech (gl gen (-1) 0) e00 := by
    have h := Cx_nil (fun _ => 0)
    exact ⟨h.1, fun k hk j h1 h2 e => absurd rfl e, h.2.1⟩
  obtain ⟨V, k', w', rs', ro', pi', fr', h1, -, us, h2, h3, h4⟩ := M_volume_eq (n := 0) (G := gen) (QL := fun _ _ => True) (QM := fun _ _ => True) (many := 0) (known := 0) (without := w) (rows := rows) (listed := 0) (measured := 0) (gen := gen) (row := row) (first := f) (fresh := f) (piv := piv) (minima := piv) (by decide) (fun g hg => absurd hg (Nat.not_lt_zero _)) hE ⟨rfl, rfl, fun h => absurd rfl h, fun h => absurd rfl h, fun h => absurd rfl h⟩
  refine ⟨_, h1, ?_⟩
  have h2 : us.length = 0 := h2
  have h5 : us = [] := List.eq_nil_of_length_eq_zero h2
  rw [h5] at h4
  exact Int64.toInt_inj.mp h4
theorem mmin_0 {gen : Nat → Int32} {w rows : Int32} {row : Nat → Int64} {piv : Nat → Int32} {f mult last made settled point : Nat → Int64} {limit : Int64} {mode counted held : Int32} {first squares : Nat → Int64} {wanted spanned : Int32} {span : Nat → Int64} {minima : Nat → Int32} {measured : Int32} {found : Nat → Int64} {any : Int32} (v : Int32) : ∃ out, M_minimum 1000 0 gen 0 w rows row piv f mult last made settled point limit mode counted held first squares wanted spanned span minima measured found any v = some out ∧ out.1 = -1 := by
  unfold M_minimum
  rw [look_0, Option.bind_some]
  by_cases h : v < 1
  · rw [if_pos h]; exact ⟨_, rfl, rfl⟩
  · rw [if_neg h]
    dsimp only
    rw [if_neg (show ¬ v ≤ 0 from fun h2 => h (by
      rw [Int32.le_iff_toInt_le] at h2
      rw [Int32.lt_iff_toInt_lt]
      have e0 : (0 : Int32).toInt = 0 := by decide
      have e1 : (1 : Int32).toInt = 1 := by decide
      omega))]
    exact ⟨_, rfl, rfl⟩
theorem open_0 {F : Nat} {piv : Nat → Int32} : M_open F 0 piv 0 = some 4 := by
  unfold M_open
  rw [if_pos (by decide)]
theorem walk20_0 {F n : Nat} {piv : Nat → Int32} {point made settled : Nat → Int64} : ∃ m' s', lM_walk_20 F 0 piv point (n + 5) 0 made (vp_updL settled 0 0) = some (m', s') ∧ (∀ j, j < 4 → m' j = 0) ∧ s' 0 = dot4 point point := by
  rw [lM_walk_20, if_neg ni0, gd_t (by unfold vp_in; decide), open_0, Option.bind_some, if_neg (by decide), gd_t (by unfold vp_in; decide), gd_t (by unfold vp_in; decide), gd_t (by unfold vp_in; decide), gd_t (by unfold vp_in; decide)]
  rw [lM_walk_20, if_neg ni1, gd_t (by unfold vp_in; decide), open_0, Option.bind_some, if_neg (by decide), gd_t (by unfold vp_in; decide), gd_t (by unfold vp_in; decide), gd_t (by unfold vp_in; decide), gd_t (by unfold vp_in; decide)]
  rw [lM_walk_20, if_neg ni2, gd_t (by unfold vp_in; decide), open_0, Option.bind_some, if_neg (by decide), gd_t (by unfold vp_in; decide), gd_t (by unfold vp_in; decide), gd_t (by unfold vp_in; decide), gd_t (by unfold vp_in; decide)]
  rw [lM_walk_20, if_neg ni3, gd_t (by unfold vp_in; decide), open_0, Option.bind_some, if_neg (by decide), gd_t (by unfold vp_in; decide), gd_t (by unfold vp_in; decide), gd_t (by unfold vp_in; decide), gd_t (by unfold vp_in; decide)]
  rw [lM_walk_20, if_pos ni4]
  refine ⟨_, _, rfl, ?_, rfl⟩
  intro j hj
  rcases k4 hj with rfl | rfl | rfl | rfl <;> rfl
/-- the walk of a lattice without rows: one vector, 0 -/
theorem walk_0 {row : Nat → Int64} {piv : Nat → Int32} {f mult last made settled point : Nat → Int64} {limit : Int64} {mode counted held : Int32} {first squares : Nat → Int64} {wanted spanned : Int32} {span : Nat → Int64} {found : Nat → Int64} {any : Int32} (how : Int32) (most : Int64) : ∃ m' s', (∀ j, j < 4 → m' j = 0) ∧ M_walk 1000 0 row piv f mult last made settled point limit mode counted held first squares wanted spanned span found any how most = if dot4 point point ≤ most then (M_visit 1000 f m' most how counted held first squares spanned span found any 0 (dot4 point point)).bind (fun r => some (r.1, mult, last, m', s', r.2.1, how, r.2.2.1, r.2.2.2.1, r.2.2.2.2.1, r.2.2.2.2.2.1, r.2.2.2.2.2.2.1, r.2.2.2.2.2.2.2.1, r.2.2.2.2.2.2.2.2.1, r.2.2.2.2.2.2.2.2.2)) else some (f, mult, last, m', s', most, how, counted, held, first, squares, spanned, span, found, any) := by
  obtain ⟨m', s', h1, h2, h3⟩ := walk20_0 (F := 1000) (n := 995) (piv := piv) (point := point) (made := made) (settled := settled)
  have h1 : lM_walk_20 1000 0 piv point 1000 0 made (vp_updL settled (0 : Int32).toNatClampNeg 0) = some (m', s') := h1
  refine ⟨m', s', h2, ?_⟩
  unfold M_walk
  rw [gd_t (by unfold vp_in; decide), h1, Option.bind_some, gd_t (by unfold vp_in; decide)]
  dsimp only
  have h3 : s' (0 : Int32).toNatClampNeg = dot4 point point := h3
  by_cases h : dot4 point point ≤ most
  · rw [if_pos h, if_pos (show s' (0 : Int32).toNatClampNeg ≤ most by rw [h3]; exact h), if_neg (by decide), if_pos rfl, gd_t (by unfold vp_in; decide), h3]
  · rw [if_neg h, if_neg (show ¬ s' (0 : Int32).toNatClampNeg ≤ most by rw [h3]; exact h)]
theorem mcount_0 {gen : Nat → Int32} {w rows : Int32} {row : Nat → Int64} {piv : Nat → Int32} {f mult last made settled point : Nat → Int64} {limit : Int64} {mode counted held : Int32} {first squares : Nat → Int64} {wanted spanned : Int32} {span : Nat → Int64} {found : Nat → Int64} {any : Int32} (v : Int32) : ∃ out, M_count 1000 0 gen 0 w rows row piv f mult last made settled point limit mode counted held first squares wanted spanned span found any v = some out ∧ out.1 = if v < 0 then -1 else if v ≤ 40 then 1 else -1 := by
  unfold M_count
  by_cases h : v < 0
  · rw [if_pos h, if_pos h]; exact ⟨_, rfl, rfl⟩
  rw [if_neg h, if_neg h]
  by_cases h4 : v ≤ 40
  · rw [if_pos h4, if_pos h4, look_0, Option.bind_some, M_origin_eq (by decide), Option.bind_some]
    dsimp only
    obtain ⟨m', s', h1, h2⟩ := walk_0 (row := row) (piv := piv) (f := f) (mult := mult) (last := last) (made := made) (settled := settled) (point := org 0 point) (limit := limit) (mode := mode) (counted := 0) (held := held) (first := first) (squares := squares) (wanted := wanted) (spanned := spanned) (span := span) (found := found) (any := any) 0 v.toInt64
    rw [h2, dot_z0 (z4_org point), if_pos (show (0 : Int64) ≤ v.toInt64 from by
      rw [Int64.le_iff_toInt_le, Int32.toInt_toInt64]
      rw [Int32.lt_iff_toInt_lt] at h
      have e0 : (0 : Int32).toInt = 0 := by decide
      have e1 : (0 : Int64).toInt = 0 := by decide
      omega)]
    unfold M_visit
    rw [if_pos rfl, Option.bind_some, Option.bind_some]
    exact ⟨_, rfl, show (0 : Int32) + 1 = 1 by decide⟩
  · rw [if_neg h4, if_neg h4]; exact ⟨_, rfl, rfl⟩
theorem sortIn_0 {made first squares : Nat → Int64} {v : Int64} : ∃ first' squares', M_sortIn 1000 made 0 first squares 0 v = some (1, first', squares') ∧ ∀ j, j < 4 → first' j = made j := by
  unfold M_sortIn
  rw [show lM_sortIn_6 1000 made 0 v 1000 0 first squares = some (0, first, squares) from by rw [lM_sortIn_6, if_pos (by decide)], Option.bind_some]
  dsimp only
  rw [if_neg (by decide), gd_t (by unfold vp_in; decide)]
  rw [lM_sortIn_112, if_neg ni0, gd_t (by unfold vp_in; decide), gd_t (by unfold vp_in; decide), lM_sortIn_112, if_neg ni1, gd_t (by unfold vp_in; decide), gd_t (by unfold vp_in; decide), lM_sortIn_112, if_neg ni2, gd_t (by unfold vp_in; decide), gd_t (by unfold vp_in; decide), lM_sortIn_112, if_neg ni3, gd_t (by unfold vp_in; decide), gd_t (by unfold vp_in; decide), lM_sortIn_112, if_pos ni4, Option.bind_some, if_neg (by decide)]
  refine ⟨_, _, rfl, fun j hj => ?_⟩
  rcases k4 hj with rfl | rfl | rfl | rfl <;> rfl
theorem mvector_0 {gen : Nat → Int32} {w rows : Int32} {row : Nat → Int64} {piv : Nat → Int32} {f mult last made settled point : Nat → Int64} {limit : Int64} {mode counted held : Int32} {first squares : Nat → Int64} {wanted spanned : Int32} {span : Nat → Int64} {found : Nat → Int64} {any : Int32} (v x : Int32) : ∃ out, M_vector 1000 0 gen 0 w rows row piv f mult last made settled point limit mode counted 0 held first squares wanted spanned span found any v x = some out ∧ out.1 = if x < 0 then 1000 else if 3 < x then 1000 else if v < 0 then 1000 else if v ≤ 0 then 0 else 1000 := by
  unfold M_vector
  by_cases h : x < 0
  · rw [if_pos h, if_pos h]; exact ⟨_, rfl, rfl⟩
  rw [if_neg h, if_neg h]
  by_cases h2 : 3 < x
  · rw [if_pos h2, if_pos h2]; exact ⟨_, rfl, rfl⟩
  rw [if_neg h2, if_neg h2]
  by_cases h3 : v < 0
  · rw [if_pos h3, if_pos h3]; exact ⟨_, rfl, rfl⟩
  rw [if_neg h3, if_neg h3]
  by_cases h4 : v ≤ 40
  · rw [if_pos h4]
    unfold M_list
    rw [look_0, Option.bind_some, if_pos rfl, M_origin_eq (by decide), Option.bind_some]
    dsimp only
    obtain ⟨m', s', g1, g2⟩ := walk_0 (row := row) (piv := piv) (f := f) (mult := mult) (last := last) (made := made) (settled := settled) (point := org 0 point) (limit := limit) (mode := mode) (counted := counted) (held := 0) (first := first) (squares := squares) (wanted := wanted) (spanned := spanned) (span := span) (found := found) (any := any) 1 1
    rw [dot_z0 (z4_org point), if_pos (show (0 : Int64) ≤ 1 by decide)] at g2
    unfold M_visit at g2
    obtain ⟨f1, q1, g3, g4⟩ := sortIn_0 (made := m') (first := first) (squares := squares) (v := 0)
    rw [if_neg (show ¬ (1 : Int32) = 0 by decide), if_pos rfl, g3, Option.bind_some, Option.bind_some] at g2
    dsimp only at g2
    rw [lM_list_29, if_neg (by decide), if_pos rfl, g2, Option.bind_some]
    dsimp only
    rw [lM_list_29, if_neg (by decide), if_neg (by decide), if_pos (by decide), Option.bind_some, Option.bind_some]
    dsimp only
    rw [if_pos rfl]
    by_cases h7 : v ≤ 0
    · have hv : v = 0 := Int32.le_antisymm h7 (Int32.not_lt.mp h3)
      subst hv
      obtain ⟨k, hk2, hk⟩ := nI_of2 (n := 3) (by decide) h (Int32.not_lt.mp h2)
      rw [if_pos h7, if_pos h7, hk, show (4 : Int32) * 0 + nI k = nI k from by rw [Int32.mul_zero, Int32.zero_add], gd_t (vp_in_nI (by omega) (by decide)), nI_clamp (by omega)]
      refine ⟨_, rfl, ?_⟩
      show (f1 k).toInt32 = 0
      rw [g4 k (by omega), g1 k (by omega)]; decide
    · rw [if_neg h7, if_neg h7]; exact ⟨_, rfl, rfl⟩
  · rw [if_neg h4, if_neg (show ¬ v ≤ 0 from fun h7 => h4 (by
      rw [Int32.le_iff_toInt_le] at h7 ⊢
      have e0 : (0 : Int32).toInt = 0 := by decide
      have e1 : (40 : Int32).toInt = 40 := by decide
      omega))]
    exact ⟨_, rfl, rfl⟩
theorem compare_0 {made found : Nat → Int64} {limit v : Int64} : ∃ f', M_compare 1000 made limit found 0 0 v = some (v, f', 1) ∧ ∀ j, j < 4 → f' j = made j := by
  unfold M_compare
  rw [if_pos rfl, if_pos rfl]
  rw [lM_compare_119, if_neg ni0, gd_t (by unfold vp_in; decide), gd_t (by unfold vp_in; decide), lM_compare_119, if_neg ni1, gd_t (by unfold vp_in; decide), gd_t (by unfold vp_in; decide), lM_compare_119, if_neg ni2, gd_t (by unfold vp_in; decide), gd_t (by unfold vp_in; decide), lM_compare_119, if_neg ni3, gd_t (by unfold vp_in; decide), gd_t (by unfold vp_in; decide), lM_compare_119, if_pos ni4, Option.bind_some]
  refine ⟨_, rfl, fun j hj => ?_⟩
  rcases k4 hj with rfl | rfl | rfl | rfl <;> rfl
theorem dbl {m : Int64} {e : Nat} (he : e ≤ 30) (h : m.toInt = ((2 ^ e : Nat) : Int)) : ((2 : Int64) * m).toInt = ((2 ^ (e + 1) : Nat) : Int) := by
  have h1 : 2 ^ e ≤ 2 ^ 30 := Nat.pow_le_pow_right (by decide) he
  have h2 : 2 ^ (e + 1) = 2 ^ e * 2 := Nat.pow_succ ..
  rw [Int64.toInt_mul, h, h2, show (2 : Int64).toInt = 2 by decide]
  generalize 2 ^ e = x at h1
  have h1 : x ≤ 1073741824 := h1
  rw [Int.bmod_eq_of_le (by omega) (by omega)]
  omega
theorem seek46_0 {row : Nat → Int64} {piv : Nat → Int32} {point : Nat → Int64} {wanted : Int32} : ∀ (d n e : Nat) (m : Int64) (f mult last made settled : Nat → Int64) (limit : Int64) (mode counted held : Int32) (first squares : Nat → Int64) (spanned : Int32) (span found : Nat → Int64), e + d = 20 → d + 1 < n → m.toInt = ((2 ^ e : Nat) : Int) → (dot4 point point).toInt ≤ ((2 ^ 20 : Nat) : Int) → ∃ out, lM_seek_46 1000 0 row piv point wanted n m f mult last made settled limit mode counted held first squares spanned span found 0 = some out ∧ out.2.2.2.2.2.1 = dot4 point point ∧ ∀ j, j < 4 → out.2.2.2.2.2.2.2.2.2.2.2.2.2.1 j = 0 := by
  intro d
  induction d with
  | zero =>
    intro n e m f mult last made settled limit mode counted held first squares spanned span found h1 h2 h3 h4
    obtain ⟨n, rfl⟩ : ∃ q, n = q + 2 := ⟨n - 2, by omega⟩
    obtain ⟨m', s', g1, g2⟩ := walk_0 (row := row) (piv := piv) (f := f) (mult := mult) (last := last) (made := made) (settled := settled) (point := point) (limit := limit) (mode := mode) (counted := counted) (held := held) (first := first) (squares := squares) (wanted := wanted) (spanned := spanned) (span := span) (found := found) (any := 0) 3 m
    have e20 : e = 20 := by omega
    subst e20
    rw [if_pos (show dot4 point point ≤ m from by rw [Int64.le_iff_toInt_le, h3]; exact h4)] at g2
    unfold M_visit at g2
    obtain ⟨f', g3, g4⟩ := compare_0 (made := m') (found := found) (limit := m) (v := dot4 point point)
    rw [if_neg (show ¬ (3 : Int32) = 0 by decide), if_neg (show ¬ (3 : Int32) = 1 by decide), if_neg (show ¬ (3 : Int32) = 2 by decide), g3, Option.bind_some, Option.bind_some] at g2
    dsimp only at g2
    rw [lM_seek_46, if_pos rfl, g2, Option.bind_some]
    dsimp only
    rw [lM_seek_46, if_neg (show ¬ (1 : Int32) = 0 by decide)]
    exact ⟨_, rfl, rfl, fun j hj => by show f' j = 0; rw [g4 j hj, g1 j hj]⟩
  | succ d ih =>
    intro n e m f mult last made settled limit mode counted held first squares spanned span found h1 h2 h3 h4
    obtain ⟨n, rfl⟩ : ∃ q, n = q + 2 := ⟨n - 2, by omega⟩
    obtain ⟨m', s', g1, g2⟩ := walk_0 (row := row) (piv := piv) (f := f) (mult := mult) (last := last) (made := made) (settled := settled) (point := point) (limit := limit) (mode := mode) (counted := counted) (held := held) (first := first) (squares := squares) (wanted := wanted) (spanned := spanned) (span := span) (found := found) (any := 0) 3 m
    by_cases hc : dot4 point point ≤ m
    · rw [if_pos hc] at g2
      unfold M_visit at g2
      obtain ⟨f', g3, g4⟩ := compare_0 (made := m') (found := found) (limit := m) (v := dot4 point point)
      rw [if_neg (show ¬ (3 : Int32) = 0 by decide), if_neg (show ¬ (3 : Int32) = 1 by decide), if_neg (show ¬ (3 : Int32) = 2 by decide), g3, Option.bind_some, Option.bind_some] at g2
      dsimp only at g2
      rw [lM_seek_46, if_pos rfl, g2, Option.bind_some]
      dsimp only
      rw [lM_seek_46, if_neg (show ¬ (1 : Int32) = 0 by decide)]
      exact ⟨_, rfl, rfl, fun j hj => by show f' j = 0; rw [g4 j hj, g1 j hj]⟩
    · rw [if_neg hc] at g2
      rw [lM_seek_46, if_pos rfl, g2, Option.bind_some]
      dsimp only
      exact ih (n + 1) (e + 1) _ _ _ _ _ _ _ _ _ _ _ _ _ _ _ (by omega) (by omega) (dbl (by omega) h3) h4
theorem set4_small {p : Nat → Int64} {a b c d : Int32} (h : le4 30 (i4 a b c d)) : (dot4 (set4 p a b c d) (set4 p a b c d)).toInt ≤ ((2 ^ 20 : Nat) : Int) := by
  have hz := z4_set4 p a b c d
  have hb : zdot (i4 a b c d) (i4 a b c d) ≤ 3600 ∧ 0 ≤ zdot (i4 a b c d) (i4 a b c d) := by
    obtain ⟨h0, h1, h2, h3⟩ := h
    unfold zdot
    generalize (i4 a b c d).1 = x at h0 ⊢
    generalize (i4 a b c d).2.1 = y at h1 ⊢
    generalize (i4 a b c d).2.2.1 = z at h2 ⊢
    generalize (i4 a b c d).2.2.2 = w at h3 ⊢
    have sq : ∀ t : Int, t.natAbs ≤ 30 → t * t ≤ 900 ∧ 0 ≤ t * t := fun t ht => by
      have := Nat.mul_le_mul ht ht
      have e : t * t = ((t.natAbs * t.natAbs : Nat) : Int) := by rw [Int.natCast_mul]; exact (Int.natAbs_mul_self' t).symm
      omega
    have := sq x h0
    have := sq y h1
    have := sq z h2
    have := sq w h3
    omega
  rw [dot4_toInt (by rw [hz]; unfold inR; omega), hz]
  have : (3600 : Int) ≤ ((2 ^ 20 : Nat) : Int) := by decide
  omega
theorem dot_set {p q : Nat → Int64} {a b c d : Int32} : dot4 (set4 p a b c d) (set4 p a b c d) = dot4 (set4 q a b c d) (set4 q a b c d) := dot4_congr (by rw [z4_set4, z4_set4])
theorem mseek_0 {gen : Nat → Int32} {w rows : Int32} {row : Nat → Int64} {piv : Nat → Int32} {f mult last made settled point : Nat → Int64} {limit : Int64} {mode counted held : Int32} {first squares : Nat → Int64} {wanted spanned : Int32} {span : Nat → Int64} {found : Nat → Int64} {any : Int32} (a b c d : Int32) (h : le4 30 (i4 a b c d)) : ∃ out, M_seek 1000 0 gen 0 w rows row piv f mult last made settled point limit mode counted held first squares wanted spanned span found any a b c d = some out ∧ out.2.2.2.2.2.2.2.2.2.2.2.1 = dot4 (set4 point a b c d) (set4 point a b c d) ∧ ∀ j, j < 4 → out.2.2.2.2.2.2.2.2.2.2.2.2.2.2.2.2.2.2.2.1 j = 0 := by
  unfold M_seek
  rw [look_0, Option.bind_some, gd_t (by unfold vp_in; decide), gd_t (by unfold vp_in; decide), gd_t (by unfold vp_in; decide), gd_t (by unfold vp_in; decide)]
  dsimp only
  obtain ⟨o, h1, h2, h3⟩ := seek46_0 (row := row) (piv := piv) (point := set4 point a b c d) (wanted := wanted) 20 1000 0 1 f mult last made settled limit mode counted held first squares spanned span found rfl (by decide) (by decide) (set4_small h)
  have h1 : lM_seek_46 1000 0 row piv (vp_updL (vp_updL (vp_updL (vp_updL point (0 : Int32).toNatClampNeg a.toInt64) (1 : Int32).toNatClampNeg b.toInt64) (2 : Int32).toNatClampNeg c.toInt64) (3 : Int32).toNatClampNeg d.toInt64) wanted 1000 1 f mult last made settled limit mode counted held first squares spanned span found 0 = some o := h1
  rw [h1, Option.bind_some]
  exact ⟨_, rfl, h2, h3⟩
theorem mdist_0 {gen : Nat → Int32} {w rows : Int32} {row : Nat → Int64} {piv : Nat → Int32} {f mult last made settled point : Nat → Int64} {limit : Int64} {mode counted held : Int32} {first squares : Nat → Int64} {wanted spanned : Int32} {span : Nat → Int64} {found : Nat → Int64} {any : Int32} (a b c d : Int32) : ∃ out, M_distance 1000 0 gen 0 w rows row piv f mult last made settled point limit mode counted held first squares wanted spanned span found any a b c d = some out ∧ out.1 = @ite _ (le4 30 (i4 a b c d)) (Classical.propDecidable _) (dot4 (set4 point a b c d) (set4 point a b c d)).toInt32 (-1) := by
  unfold M_distance
  rcases M_within_eq (F := 1000) (E := 30) (by decide) a b c d with ⟨h1, h2⟩ | ⟨h1, h2⟩
  · have h2 : M_within 1000 a b c d 30 = some 1 := h2
    rw [h2, Option.bind_some, if_neg (show ¬ (1 : Int32) = 0 by decide), if_pos h1]
    obtain ⟨o, g1, g2, -⟩ := mseek_0 (gen := gen) (w := w) (rows := rows) (row := row) (piv := piv) (f := f) (mult := mult) (last := last) (made := made) (settled := settled) (point := point) (limit := limit) (mode := mode) (counted := counted) (held := held) (first := first) (squares := squares) (wanted := wanted) (spanned := spanned) (span := span) (found := found) (any := any) a b c d h1
    rw [g1, Option.bind_some]
    exact ⟨_, rfl, congrArg Int64.toInt32 g2⟩
  · have h2 : M_within 1000 a b c d 30 = some 0 := h2
    rw [h2, Option.bind_some, if_pos rfl, if_neg h1]
    exact ⟨_, rfl, rfl⟩
theorem mnear_0 {gen : Nat → Int32} {w rows : Int32} {row : Nat → Int64} {piv : Nat → Int32} {f mult last made settled point : Nat → Int64} {limit : Int64} {mode counted held : Int32} {first squares : Nat → Int64} {wanted spanned : Int32} {span : Nat → Int64} {found : Nat → Int64} {any : Int32} (a b c d x : Int32) : ∃ out, M_nearest 1000 0 gen 0 w rows row piv f mult last made settled point limit mode counted held first squares wanted spanned span found any a b c d x = some out ∧ out.1 = @ite _ (le4 30 (i4 a b c d)) (Classical.propDecidable _) (if x < 0 then 1000 else if x ≤ 3 then 0 else 1000) 1000 := by
  unfold M_nearest
  rcases M_within_eq (F := 1000) (E := 30) (by decide) a b c d with ⟨h1, h2⟩ | ⟨h1, h2⟩
  · have h2 : M_within 1000 a b c d 30 = some 1 := h2
    rw [h2, Option.bind_some, if_neg (show ¬ (1 : Int32) = 0 by decide), if_pos h1]
    by_cases h : x < 0
    · rw [if_pos h, if_pos h]; exact ⟨_, rfl, rfl⟩
    rw [if_neg h, if_neg h]
    by_cases h3 : x ≤ 3
    · rw [if_pos h3, if_pos h3]
      obtain ⟨o, g1, -, g3⟩ := mseek_0 (gen := gen) (w := w) (rows := rows) (row := row) (piv := piv) (f := f) (mult := mult) (last := last) (made := made) (settled := settled) (point := point) (limit := limit) (mode := mode) (counted := counted) (held := held) (first := first) (squares := squares) (wanted := wanted) (spanned := spanned) (span := span) (found := found) (any := any) a b c d h1
      obtain ⟨k, hk2, hk⟩ := nI_of2 (n := 3) (by decide) h h3
      rw [g1, Option.bind_some, hk, gd_t (vp_in_nI (by omega) (by decide)), nI_clamp (by omega)]
      refine ⟨_, rfl, ?_⟩
      dsimp only
      rw [g3 k (by omega)]; decide
    · rw [if_neg h3, if_neg h3]; exact ⟨_, rfl, rfl⟩
  · have h2 : M_within 1000 a b c d 30 = some 0 := h2
    rw [h2, Option.bind_some, if_pos rfl, if_neg h1]
    exact ⟨_, rfl, rfl⟩
