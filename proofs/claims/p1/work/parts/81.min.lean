/-! Layer B: the rows of a reduced and sorted basis: none of the vectors with a part of row k is shorter -/
theorem z0_dot (x : Z4) : zdot z0 x = 0 ∧ zsq z0 = 0 := by
  unfold zsq zdot z0
  constructor <;> simp
theorem pairs_z0 (x : Z4) : pairs z0 x := by
  obtain ⟨h1, h2⟩ := z0_dot x
  have h3 := zsq_nonneg x
  unfold pairs
  rw [h1, h2]
  omega
theorem dot_comm (a b : Z4) : zdot a b = zdot b a := by unfold zdot; grind
theorem redd_pairs {m a b : Nat} {R : Nat → Nat → Int64} (h : Redd m R) (ha : a < m) (hb : b < m) (hab : a ≠ b) : pairs (z4 (R a)) (z4 (R b)) := by
  have h1 := h.1 a b ha hb (Ne.symm hab)
  have h2 := h.1 b a hb ha hab
  unfold pr at h1 h2
  rw [dot_comm (z4 (R b))] at h2
  exact ⟨h2.1, h2.2, h1.1, h1.2⟩
theorem redd_near {m : Nat} {R : Nat → Nat → Int64} (h : Redd m R) (hm : m ≤ 4) : (0 < m → near4 z0 z0 z0 (z4 (R 0))) ∧ (1 < m → near4 z0 z0 (z4 (R 0)) (z4 (R 1))) ∧ (2 < m → near4 z0 (z4 (R 0)) (z4 (R 1)) (z4 (R 2))) ∧ (3 < m → near4 (z4 (R 0)) (z4 (R 1)) (z4 (R 2)) (z4 (R 3))) := by
  have key : ∀ (k : Nat) (c0 c1 c2 : Int) (u : Z4), k < m → (-1 ≤ c0 ∧ c0 ≤ 1) → (-1 ≤ c1 ∧ c1 ≤ 1) → (-1 ≤ c2 ∧ c2 ≤ 1) → cs R k (fun i => if k ≤ i then 0 else if i = 0 then c0 else if i = 1 then c1 else c2) m 0 (z4 (R k)) = u → zsq (z4 (R k)) ≤ zsq u := fun k c0 c1 c2 u hk h0 h1 h2 hu => by
    have := redd_cs h hm hk (c := fun i => if k ≤ i then 0 else if i = 0 then c0 else if i = 1 then c1 else c2) (fun i => by
      show -2 ≤ (if k ≤ i then 0 else if i = 0 then c0 else if i = 1 then c1 else c2) ∧ (if k ≤ i then 0 else if i = 0 then c0 else if i = 1 then c1 else c2) ≤ 2
      split
      · omega
      · split
        · omega
        · split <;> omega)
    rw [hu] at this
    exact this
  refine ⟨fun hk => ?_, fun hk => ?_, fun hk => ?_, fun hk => ?_⟩
  · intro c1 c2 c3 _ _ _ _ _ _
    refine key 0 0 0 0 _ hk (by omega) (by omega) (by omega) (zc_ext fun i hi => ?_)
    rcases (show m = 1 ∨ m = 2 ∨ m = 3 ∨ m = 4 by omega) with rfl | rfl | rfl | rfl <;> (simp [cs, comb, zc_add, zc_mul, zc_0]; try omega)
  · intro c1 c2 c3 _ _ _ _ _ _
    refine key 1 c3 0 0 _ hk (by omega) (by omega) (by omega) (zc_ext fun i hi => ?_)
    rcases (show m = 2 ∨ m = 3 ∨ m = 4 by omega) with rfl | rfl | rfl <;> (simp [cs, comb, zc_add, zc_mul, zc_0]; try omega)
  · intro c1 c2 c3 _ _ _ _ _ _
    refine key 2 c2 c3 0 _ hk (by omega) (by omega) (by omega) (zc_ext fun i hi => ?_)
    rcases (show m = 3 ∨ m = 4 by omega) with rfl | rfl <;> (simp [cs, comb, zc_add, zc_mul, zc_0]; try omega)
  · intro c1 c2 c3 _ _ _ _ _ _
    refine key 3 c1 c2 c3 _ hk (by omega) (by omega) (by omega) (zc_ext fun i hi => ?_)
    have e : m = 4 := by omega
    subst e
    simp [cs, comb, zc_add, zc_mul, zc_0]; try omega
/-- of the vectors that have a part of row k and none of the rows behind it none is shorter than row k -/
theorem redd_min {m : Nat} {R : Nat → Nat → Int64} (h : Redd m R) (hm : m ≤ 4) (hs : ∀ i j, i ≤ j → j < m → zsq (z4 (R i)) ≤ zsq (z4 (R j))) {x : Int} (hx : x ≠ 0) (y0 y1 y2 : Int) : (0 < m → zsq (z4 (R 0)) ≤ zsq (comb 0 0 0 x z0 z0 z0 (z4 (R 0)))) ∧ (1 < m → zsq (z4 (R 1)) ≤ zsq (comb 0 0 y0 x z0 z0 (z4 (R 0)) (z4 (R 1)))) ∧ (2 < m → zsq (z4 (R 2)) ≤ zsq (comb 0 y0 y1 x z0 (z4 (R 0)) (z4 (R 1)) (z4 (R 2)))) ∧ (3 < m → zsq (z4 (R 3)) ≤ zsq (comb y0 y1 y2 x (z4 (R 0)) (z4 (R 1)) (z4 (R 2)) (z4 (R 3)))) := by
  obtain ⟨n0, n1, n2, n3⟩ := redd_near h hm
  have zz : ∀ v : Z4, zsq z0 ≤ zsq v := fun v => by rw [(z0_dot v).2]; exact zsq_nonneg v
  refine ⟨fun hk => ?_, fun hk => ?_, fun hk => ?_, fun hk => ?_⟩
  · exact top_ne (pairs_z0 _) (pairs_z0 _) (pairs_z0 _) (n0 hk) (zz _) (zz _) (zz _) hx 0 0 0
  · exact top_ne (pairs_z0 _) (pairs_z0 _) (pairs_z0 _) (n1 hk) (zz _) (zz _) (hs 0 1 (by decide) hk) hx 0 0 y0
  · exact top_ne (pairs_z0 _) (pairs_z0 _) (redd_pairs h (by omega) (by omega) (by decide)) (n2 hk) (zz _) (hs 0 2 (by decide) hk) (hs 1 2 (by decide) hk) hx 0 y0 y1
  · exact top_ne (redd_pairs h (by omega) (by omega) (by decide)) (redd_pairs h (by omega) (by omega) (by decide)) (redd_pairs h (by omega) (by omega) (by decide)) (n3 hk) (hs 0 3 (by decide) hk) (hs 1 3 (by decide) hk) (hs 2 3 (by decide) hk) hx y0 y1 y2
